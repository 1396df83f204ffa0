/-! ===== words of the tables, shapes of the cells, rows for the two sides ===== -/
theorem inX0 : ∀ w ∈ u_ws RX0 TX0 2, w ∈ fd_gt := by
  have h : (u_ws RX0 TX0 2).all (fun w => decide (w ∈ lw_tbl) && goodWord w) = true := by decide +kernel
  intro w hw
  have h1 := List.all_eq_true.mp h w hw
  simp only [Bool.and_eq_true, decide_eq_true_eq] at h1
  exact fd_gt_of h1.1 h1.2
theorem inX1 : ∀ w ∈ u_ws RX1 TX1 4, w ∈ fd_gt := by
  have h : (u_ws RX1 TX1 4).all (fun w => decide (w ∈ lw_tbl) && goodWord w) = true := by decide +kernel
  intro w hw
  have h1 := List.all_eq_true.mp h w hw
  simp only [Bool.and_eq_true, decide_eq_true_eq] at h1
  exact fd_gt_of h1.1 h1.2
theorem inX2 : ∀ w ∈ u_ws RX2 TX2 4, w ∈ fd_gt := by
  have h : (u_ws RX2 TX2 4).all (fun w => decide (w ∈ lw_tbl) && goodWord w) = true := by decide +kernel
  intro w hw
  have h1 := List.all_eq_true.mp h w hw
  simp only [Bool.and_eq_true, decide_eq_true_eq] at h1
  exact fd_gt_of h1.1 h1.2
theorem inX3 : ∀ w ∈ u_ws RX3 TX3 1, w ∈ fd_gt := by
  have h : (u_ws RX3 TX3 1).all (fun w => decide (w ∈ lw_tbl) && goodWord w) = true := by decide +kernel
  intro w hw
  have h1 := List.all_eq_true.mp h w hw
  simp only [Bool.and_eq_true, decide_eq_true_eq] at h1
  exact fd_gt_of h1.1 h1.2
theorem inX4 : ∀ w ∈ u_ws RX4 TX4 4, w ∈ fd_gt := by
  have h : (u_ws RX4 TX4 4).all (fun w => decide (w ∈ lw_tbl) && goodWord w) = true := by decide +kernel
  intro w hw
  have h1 := List.all_eq_true.mp h w hw
  simp only [Bool.and_eq_true, decide_eq_true_eq] at h1
  exact fd_gt_of h1.1 h1.2
theorem inX5 : ∀ w ∈ u_ws RX5 TX5 1, w ∈ fd_gt := by
  have h : (u_ws RX5 TX5 1).all (fun w => decide (w ∈ lw_tbl) && goodWord w) = true := by decide +kernel
  intro w hw
  have h1 := List.all_eq_true.mp h w hw
  simp only [Bool.and_eq_true, decide_eq_true_eq] at h1
  exact fd_gt_of h1.1 h1.2
theorem inX6 : ∀ w ∈ u_ws RX6 TX6 3, w ∈ fd_gt := by
  have h : (u_ws RX6 TX6 3).all (fun w => decide (w ∈ lw_tbl) && goodWord w) = true := by decide +kernel
  intro w hw
  have h1 := List.all_eq_true.mp h w hw
  simp only [Bool.and_eq_true, decide_eq_true_eq] at h1
  exact fd_gt_of h1.1 h1.2
theorem inX7 : ∀ w ∈ u_ws RX7 TX7 11, w ∈ fd_gt := by
  have h : (u_ws RX7 TX7 11).all (fun w => decide (w ∈ lw_tbl) && goodWord w) = true := by decide +kernel
  intro w hw
  have h1 := List.all_eq_true.mp h w hw
  simp only [Bool.and_eq_true, decide_eq_true_eq] at h1
  exact fd_gt_of h1.1 h1.2
theorem inX8 : ∀ w ∈ u_ws RX8 TX8 8, w ∈ fd_gt := by
  have h : (u_ws RX8 TX8 8).all (fun w => decide (w ∈ lw_tbl) && goodWord w) = true := by decide +kernel
  intro w hw
  have h1 := List.all_eq_true.mp h w hw
  simp only [Bool.and_eq_true, decide_eq_true_eq] at h1
  exact fd_gt_of h1.1 h1.2
theorem inX9 : ∀ w ∈ u_ws RX9 TX9 31, w ∈ fd_gt := by
  have h : (u_ws RX9 TX9 31).all (fun w => decide (w ∈ lw_tbl) && goodWord w) = true := by decide +kernel
  intro w hw
  have h1 := List.all_eq_true.mp h w hw
  simp only [Bool.and_eq_true, decide_eq_true_eq] at h1
  exact fd_gt_of h1.1 h1.2
theorem kw_0 : (Cond.fieldLink "FrostDebts$Places" (26 : Nat) "FrostDebts$Places" "size" "I") ∈ fd_gt := fd_gt_t (List.mem_of_getElem? (i := 79) (by decide +kernel)) (by decide +kernel)
theorem kw_1 : (Cond.fieldLink "FrostDebts$Row" (13 : Nat) "FrostDebts$Row" "items" "[I") ∈ fd_gt := fd_gt_t (List.mem_of_getElem? (i := 37) (by decide +kernel)) (by decide +kernel)
theorem kw_2 : (Cond.fieldLink "FrostDebts$Sheet" (20 : Nat) "FrostDebts$Sheet" "isLost" "Z") ∈ fd_gt := fd_gt_t (List.mem_of_getElem? (i := 203) (by decide +kernel)) (by decide +kernel)
theorem kw_3 : (Cond.fieldLink "FrostDebts$Sheet" (24 : Nat) "FrostDebts$Sheet" "form" "I") ∈ fd_gt := fd_gt_t (List.mem_of_getElem? (i := 205) (by decide +kernel)) (by decide +kernel)
theorem kw_4 : (Cond.fieldLink "FrostDebts$Sheet" (28 : Nat) "FrostDebts$Sheet" "size" "I") ∈ fd_gt := fd_gt_t (List.mem_of_getElem? (i := 207) (by decide +kernel)) (by decide +kernel)
theorem kw_5 : (Cond.fieldLink "FrostDebts$Spans" (9 : Nat) "FrostDebts$Spans" "nights" "[J") ∈ fd_gt := fd_gt_t (List.mem_of_getElem? (i := 124) (by decide +kernel)) (by decide +kernel)
theorem kw_6 : (Cond.fieldLink "FrostDebts" (40 : Nat) "FrostDebts" "sights" "LFrostDebts$Marks;") ∈ fd_gt := fd_gt_t (List.mem_of_getElem? (i := 222) (by decide +kernel)) (by decide +kernel)
theorem kw_7 : (Cond.fieldLink "FrostDebts" (130 : Nat) "FrostDebts$Marks" "size" "I") ∈ fd_gt := fd_gt_t (List.mem_of_getElem? (i := 106) (by decide +kernel)) (by decide +kernel)
theorem kw_8 : (Cond.fieldLink "FrostDebts" (29 : Nat) "FrostDebts" "places" "LFrostDebts$Places;") ∈ fd_gt := fd_gt_t (List.mem_of_getElem? (i := 220) (by decide +kernel)) (by decide +kernel)
theorem kw_9 : (Cond.fieldLink "FrostDebts" (150 : Nat) "FrostDebts$Places" "size" "I") ∈ fd_gt := fd_gt_t (List.mem_of_getElem? (i := 81) (by decide +kernel)) (by decide +kernel)
theorem kw_10 : (Cond.fieldLink "FrostDebts" (21 : Nat) "FrostDebts" "weather" "LFrostDebts$Weather;") ∈ fd_gt := fd_gt_t (List.mem_of_getElem? (i := 219) (by decide +kernel)) (by decide +kernel)
theorem kw_11 : (Cond.fieldLink "FrostDebts" (98 : Nat) "FrostDebts$Weather" "nights" "I") ∈ fd_gt := fd_gt_t (List.mem_of_getElem? (i := 140) (by decide +kernel)) (by decide +kernel)
theorem kw_12 : (Cond.fieldLink "FrostDebts" (33 : Nat) "FrostDebts" "debts" "LFrostDebts$Debts;") ∈ fd_gt := fd_gt_t (List.mem_of_getElem? (i := 221) (by decide +kernel)) (by decide +kernel)
theorem kw_13 : (Cond.fieldLink "FrostDebts" (104 : Nat) "FrostDebts$Debts" "size" "I") ∈ fd_gt := fd_gt_t (List.mem_of_getElem? (i := 182) (by decide +kernel)) (by decide +kernel)
theorem kw_14 : (Cond.fieldLink "FrostDebts" (14 : Nat) "FrostDebts" "texts" "[LFrostDebts$Text;") ∈ fd_gt := fd_gt_t (List.mem_of_getElem? (i := 218) (by decide +kernel)) (by decide +kernel)
theorem kw_15 : (Cond.fieldLink "FrostDebts" (73 : Nat) "FrostDebts$Text" "length" "I") ∈ fd_gt := fd_gt_t (List.mem_of_getElem? (i := 49) (by decide +kernel)) (by decide +kernel)
theorem kw_16 : (Cond.fieldLink "FrostDebts" (117 : Nat) "FrostDebts$Weather" "clouds" "LFrostDebts$Marks;") ∈ fd_gt := fd_gt_t (List.mem_of_getElem? (i := 132) (by decide +kernel)) (by decide +kernel)
theorem kw_17 : (Cond.fieldLink "FrostDebts" (124 : Nat) "FrostDebts$Weather" "smokes" "LFrostDebts$Marks;") ∈ fd_gt := fd_gt_t (List.mem_of_getElem? (i := 134) (by decide +kernel)) (by decide +kernel)
theorem kw_18 : (Cond.fieldLink "FrostDebts" (127 : Nat) "FrostDebts$Weather" "ices" "LFrostDebts$Marks;") ∈ fd_gt := fd_gt_t (List.mem_of_getElem? (i := 136) (by decide +kernel)) (by decide +kernel)
theorem kw_19 : (Cond.fieldLink "FrostDebts" (58 : Nat) "FrostDebts" "latestFinding" "I") ∈ fd_gt := fd_gt_t (List.mem_of_getElem? (i := 225) (by decide +kernel)) (by decide +kernel)
theorem kw_20 : (Cond.constant "FrostDebts" (336 : Nat) (1103515245 : Int32)) ∈ fd_gt := fd_gt_t (List.mem_of_getElem? (i := 578) (by decide +kernel)) (by decide +kernel)
theorem kw_21 : (Cond.constantLong "FrostDebts" (337 : Nat) (2 : Int64)) ∈ fd_gt := fd_gt_t (List.mem_of_getElem? (i := 452) (by decide +kernel)) (by decide +kernel)
theorem kw_22 : (Cond.constantLong "FrostDebts" (347 : Nat) (31 : Int64)) ∈ fd_gt := fd_gt_t (List.mem_of_getElem? (i := 645) (by decide +kernel)) (by decide +kernel)
theorem kw_23 : (Cond.constantLong "FrostDebtsModel" (87 : Nat) (-9223372036854775808 : Int64)) ∈ fd_gt := fd_gt_t (List.mem_of_getElem? (i := 1111) (by decide +kernel)) (by decide +kernel)
theorem kw_24 : (Cond.fieldLink "FrostDebtsModel" (7 : Nat) "FrostDebtsModel" "typed" "[I") ∈ fd_gt := fd_gt_t (List.mem_of_getElem? (i := 686) (by decide +kernel)) (by decide +kernel)
theorem kw_25 : (Cond.fieldLink "FrostDebtsModel" (13 : Nat) "FrostDebtsModel" "texts" "[I") ∈ fd_gt := fd_gt_t (List.mem_of_getElem? (i := 687) (by decide +kernel)) (by decide +kernel)
theorem kw_26 : (Cond.fieldLink "FrostDebtsModel" (37 : Nat) "FrostDebtsModel" "debtNight" "[I") ∈ fd_gt := fd_gt_t (List.mem_of_getElem? (i := 698) (by decide +kernel)) (by decide +kernel)
theorem kw_27 : (Cond.fieldLink "FrostDebtsModel" (34 : Nat) "FrostDebtsModel" "debtPlace" "[I") ∈ fd_gt := fd_gt_t (List.mem_of_getElem? (i := 697) (by decide +kernel)) (by decide +kernel)
theorem kw_28 : (Cond.fieldLink "FrostDebtsModel" (31 : Nat) "FrostDebtsModel" "amounts" "[I") ∈ fd_gt := fd_gt_t (List.mem_of_getElem? (i := 696) (by decide +kernel)) (by decide +kernel)
theorem kw_29 : (Cond.fieldLink "FrostDebtsModel" (28 : Nat) "FrostDebtsModel" "lenders" "[I") ∈ fd_gt := fd_gt_t (List.mem_of_getElem? (i := 695) (by decide +kernel)) (by decide +kernel)
theorem kw_30 : (Cond.fieldLink "FrostDebtsModel" (25 : Nat) "FrostDebtsModel" "owers" "[I") ∈ fd_gt := fd_gt_t (List.mem_of_getElem? (i := 694) (by decide +kernel)) (by decide +kernel)
theorem kw_31 : (Cond.fieldLink "FrostDebtsModel" (40 : Nat) "FrostDebtsModel" "many" "[I") ∈ fd_gt := fd_gt_t (List.mem_of_getElem? (i := 700) (by decide +kernel)) (by decide +kernel)
theorem kw_32 : (Cond.fieldLink "FrostDebtsModel" (43 : Nat) "FrostDebtsModel" "toldNight" "[I") ∈ fd_gt := fd_gt_t (List.mem_of_getElem? (i := 701) (by decide +kernel)) (by decide +kernel)
theorem kw_33 : (Cond.fieldLink "FrostDebtsModel" (46 : Nat) "FrostDebtsModel" "toldPlace" "[I") ∈ fd_gt := fd_gt_t (List.mem_of_getElem? (i := 702) (by decide +kernel)) (by decide +kernel)
theorem kw_34 : (Cond.fieldLink "FrostDebtsModel" (156 : Nat) "FrostDebtsModel" "without" "I") ∈ fd_gt := fd_gt_t (List.mem_of_getElem? (i := 704) (by decide +kernel)) (by decide +kernel)
theorem kw_35 : (Cond.fieldLink "FrostDebtsModel" (19 : Nat) "FrostDebtsModel" "kinds" "[I") ∈ fd_gt := fd_gt_t (List.mem_of_getElem? (i := 690) (by decide +kernel)) (by decide +kernel)
theorem kw_36 : (Cond.fieldLink "FrostDebtsModel" (22 : Nat) "FrostDebtsModel" "warms" "[I") ∈ fd_gt := fd_gt_t (List.mem_of_getElem? (i := 692) (by decide +kernel)) (by decide +kernel)
theorem kw_37 : (Cond.fieldLink "FrostDebtsModel" (16 : Nat) "FrostDebtsModel" "heights" "[I") ∈ fd_gt := fd_gt_t (List.mem_of_getElem? (i := 689) (by decide +kernel)) (by decide +kernel)
theorem kw_38 : (Cond.fieldLink "FrostDebtsModel" (105 : Nat) "FrostDebtsModel" "places" "I") ∈ fd_gt := fd_gt_t (List.mem_of_getElem? (i := 688) (by decide +kernel)) (by decide +kernel)
theorem kw_39 : (Cond.fieldLink "FrostDebtsModel" (53 : Nat) "FrostDebtsModel" "firsts" "[I") ∈ fd_gt := fd_gt_t (List.mem_of_getElem? (i := 705) (by decide +kernel)) (by decide +kernel)
theorem kw_40 : (Cond.fieldLink "FrostDebtsModel" (235 : Nat) "FrostDebtsModel" "seens" "I") ∈ fd_gt := fd_gt_t (List.mem_of_getElem? (i := 707) (by decide +kernel)) (by decide +kernel)
theorem kw_41 : (Cond.fieldLink "FrostDebtsModel" (281 : Nat) "FrostDebtsModel" "finding" "I") ∈ fd_gt := fd_gt_t (List.mem_of_getElem? (i := 716) (by decide +kernel)) (by decide +kernel)
theorem kw_42 : (Cond.fieldLink "FrostDebtsModel" (77 : Nat) "FrostDebtsModel" "items" "[I") ∈ fd_gt := fd_gt_t (List.mem_of_getElem? (i := 714) (by decide +kernel)) (by decide +kernel)
theorem kw_43 : (Cond.fieldLink "FrostDebtsModel" (71 : Nat) "FrostDebtsModel" "forms" "[I") ∈ fd_gt := fd_gt_t (List.mem_of_getElem? (i := 712) (by decide +kernel)) (by decide +kernel)
theorem kw_44 : (Cond.constantLong "java/lang/Long" (314 : Nat) (6148914691236517205 : Int64)) ∈ fd_gt := fd_gt_t (List.mem_of_getElem? (i := 438) (by decide +kernel)) (by decide +kernel)
theorem kw_45 : (Cond.constantLong "java/lang/Long" (316 : Nat) (3689348814741910323 : Int64)) ∈ fd_gt := fd_gt_t (List.mem_of_getElem? (i := 439) (by decide +kernel)) (by decide +kernel)
theorem kw_46 : (Cond.constantLong "java/lang/Long" (318 : Nat) (1085102592571150095 : Int64)) ∈ fd_gt := fd_gt_t (List.mem_of_getElem? (i := 440) (by decide +kernel)) (by decide +kernel)
theorem kw_47 : (Cond.fieldLink "FrostDebts$Debts" (30 : Nat) "FrostDebts$Text" "bytes" "LFrostDebts$Row;") ∈ fd_gt := fd_gt_t (List.mem_of_getElem? (i := 45) (by decide +kernel)) (by decide +kernel)
theorem kw_48 : (Cond.code ({ cls := "FrostDebts$Row", name := "at", desc := "(I)I" } : MethodName) prog_5_method_2_code (2 : Nat) (Option.some ClassFile.FieldType.int)) ∈ fd_gt := fd_gt_t (List.mem_of_getElem? (i := 271) (by decide +kernel)) (by decide +kernel)
theorem kw_49 : (Cond.initialized "FrostDebts$Row") ∈ fd_gt := fd_gt_t (List.mem_of_getElem? (i := 3) (by decide +kernel)) (by decide +kernel)
theorem kw_50 : (Cond.instanceMethod ({ cls := "FrostDebts$Row", name := "at", desc := "(I)I" } : MethodName)) ∈ fd_gt := fd_gt_t (List.mem_of_getElem? (i := 269) (by decide +kernel)) (by decide +kernel)
theorem kw_51 : (Cond.selects "FrostDebts$Row" ({ cls := "FrostDebts$Row", name := "at", desc := "(I)I" } : MethodName) ({ cls := "FrostDebts$Row", name := "at", desc := "(I)I" } : MethodName)) ∈ fd_gt := fd_gt_t (List.mem_of_getElem? (i := 270) (by decide +kernel)) (by decide +kernel)
theorem kw_52 : (Cond.methodLink "FrostDebts$Debts" (35 : Nat) ({ cls := "FrostDebts$Row", name := "at", desc := "(I)I" } : MethodName)) ∈ fd_gt := fd_gt_t (List.mem_of_getElem? (i := 312) (by decide +kernel)) (by decide +kernel)
theorem kw_53 : (Cond.fieldLink "FrostDebts$Debts" (14 : Nat) "FrostDebts$Debts" "facts" "LFrostDebts$Row;") ∈ fd_gt := fd_gt_t (List.mem_of_getElem? (i := 180) (by decide +kernel)) (by decide +kernel)
theorem kw_54 : (Cond.code ({ cls := "FrostDebts$Row", name := "set", desc := "(II)V" } : MethodName) prog_5_method_3_code (3 : Nat) (Option.none : Option ClassFile.FieldType)) ∈ fd_gt := fd_gt_t (List.mem_of_getElem? (i := 257) (by decide +kernel)) (by decide +kernel)
theorem kw_55 : (Cond.instanceMethod ({ cls := "FrostDebts$Row", name := "set", desc := "(II)V" } : MethodName)) ∈ fd_gt := fd_gt_t (List.mem_of_getElem? (i := 255) (by decide +kernel)) (by decide +kernel)
theorem kw_56 : (Cond.selects "FrostDebts$Row" ({ cls := "FrostDebts$Row", name := "set", desc := "(II)V" } : MethodName) ({ cls := "FrostDebts$Row", name := "set", desc := "(II)V" } : MethodName)) ∈ fd_gt := fd_gt_t (List.mem_of_getElem? (i := 256) (by decide +kernel)) (by decide +kernel)
theorem kw_57 : (Cond.methodLink "FrostDebts$Debts" (47 : Nat) ({ cls := "FrostDebts$Row", name := "set", desc := "(II)V" } : MethodName)) ∈ fd_gt := fd_gt_t (List.mem_of_getElem? (i := 317) (by decide +kernel)) (by decide +kernel)
theorem kw_58 : (Cond.fieldLink "FrostDebts$Marks" (26 : Nat) "FrostDebts$Marks" "size" "I") ∈ fd_gt := fd_gt_t (List.mem_of_getElem? (i := 105) (by decide +kernel)) (by decide +kernel)
theorem kw_59 : (Cond.fieldLink "FrostDebts$Marks" (14 : Nat) "FrostDebts$Marks" "nights" "LFrostDebts$Row;") ∈ fd_gt := fd_gt_t (List.mem_of_getElem? (i := 99) (by decide +kernel)) (by decide +kernel)
theorem kw_60 : (Cond.methodLink "FrostDebts$Marks" (30 : Nat) ({ cls := "FrostDebts$Row", name := "set", desc := "(II)V" } : MethodName)) ∈ fd_gt := fd_gt_t (List.mem_of_getElem? (i := 398) (by decide +kernel)) (by decide +kernel)
theorem kw_61 : (Cond.fieldLink "FrostDebts$Marks" (20 : Nat) "FrostDebts$Marks" "spots" "LFrostDebts$Row;") ∈ fd_gt := fd_gt_t (List.mem_of_getElem? (i := 101) (by decide +kernel)) (by decide +kernel)
theorem kw_62 : (Cond.fieldLink "FrostDebts$Marks" (23 : Nat) "FrostDebts$Marks" "signs" "LFrostDebts$Row;") ∈ fd_gt := fd_gt_t (List.mem_of_getElem? (i := 103) (by decide +kernel)) (by decide +kernel)
theorem kw_63 : (Cond.methodLink "FrostDebts$Marks" (34 : Nat) ({ cls := "FrostDebts$Row", name := "at", desc := "(I)I" } : MethodName)) ∈ fd_gt := fd_gt_t (List.mem_of_getElem? (i := 329) (by decide +kernel)) (by decide +kernel)
theorem kw_64 : (Cond.code ({ cls := "java/lang/Math", name := "min", desc := "(II)I" } : MethodName) prog_13_method_69_code (2 : Nat) (Option.some ClassFile.FieldType.int)) ∈ fd_gt := fd_gt_t (List.mem_of_getElem? (i := 293) (by decide +kernel)) (by decide +kernel)
theorem kw_65 : (Cond.initialized "java/lang/Math") ∈ fd_gt := fd_gt_t (List.mem_of_getElem? (i := 4) (by decide +kernel)) (by decide +kernel)
theorem kw_66 : (Cond.static ({ cls := "java/lang/Math", name := "min", desc := "(II)I" } : MethodName)) ∈ fd_gt := fd_gt_t (List.mem_of_getElem? (i := 292) (by decide +kernel)) (by decide +kernel)
theorem kw_67 : (Cond.methodLink "FrostDebts$Places" (30 : Nat) ({ cls := "java/lang/Math", name := "min", desc := "(II)I" } : MethodName)) ∈ fd_gt := fd_gt_t (List.mem_of_getElem? (i := 291) (by decide +kernel)) (by decide +kernel)
theorem kw_68 : (Cond.fieldLink "FrostDebts$Places" (14 : Nat) "FrostDebts$Places" "heights" "LFrostDebts$Row;") ∈ fd_gt := fd_gt_t (List.mem_of_getElem? (i := 71) (by decide +kernel)) (by decide +kernel)
theorem kw_69 : (Cond.fieldLink "FrostDebts$Places" (36 : Nat) "FrostDebts$Text" "bytes" "LFrostDebts$Row;") ∈ fd_gt := fd_gt_t (List.mem_of_getElem? (i := 44) (by decide +kernel)) (by decide +kernel)
theorem kw_70 : (Cond.methodLink "FrostDebts$Places" (41 : Nat) ({ cls := "FrostDebts$Row", name := "at", desc := "(I)I" } : MethodName)) ∈ fd_gt := fd_gt_t (List.mem_of_getElem? (i := 294) (by decide +kernel)) (by decide +kernel)
theorem kw_71 : (Cond.methodLink "FrostDebts$Places" (45 : Nat) ({ cls := "FrostDebts$Row", name := "set", desc := "(II)V" } : MethodName)) ∈ fd_gt := fd_gt_t (List.mem_of_getElem? (i := 295) (by decide +kernel)) (by decide +kernel)
theorem kw_72 : (Cond.fieldLink "FrostDebts$Places" (20 : Nat) "FrostDebts$Places" "kinds" "LFrostDebts$Row;") ∈ fd_gt := fd_gt_t (List.mem_of_getElem? (i := 73) (by decide +kernel)) (by decide +kernel)
theorem kw_73 : (Cond.code ({ cls := "FrostDebts", name := "kindOf", desc := "(I)I" } : MethodName) prog_1_method_51_code (1 : Nat) (Option.some ClassFile.FieldType.int)) ∈ fd_gt := fd_gt_t (List.mem_of_getElem? (i := 280) (by decide +kernel)) (by decide +kernel)
theorem kw_74 : (Cond.initialized "FrostDebts") ∈ fd_gt := fd_gt_t (List.mem_of_getElem? (i := 1) (by decide +kernel)) (by decide +kernel)
theorem kw_75 : (Cond.static ({ cls := "FrostDebts", name := "kindOf", desc := "(I)I" } : MethodName)) ∈ fd_gt := fd_gt_t (List.mem_of_getElem? (i := 279) (by decide +kernel)) (by decide +kernel)
theorem kw_76 : (Cond.fieldLink "FrostDebts$Places" (23 : Nat) "FrostDebts$Places" "lifts" "LFrostDebts$Row;") ∈ fd_gt := fd_gt_t (List.mem_of_getElem? (i := 76) (by decide +kernel)) (by decide +kernel)
theorem kw_77 : (Cond.code ({ cls := "FrostDebts$Places", name := "liftOf", desc := "(I)I" } : MethodName) prog_4_method_3_code (1 : Nat) (Option.some ClassFile.FieldType.int)) ∈ fd_gt := fd_gt_t (List.mem_of_getElem? (i := 299) (by decide +kernel)) (by decide +kernel)
theorem kw_78 : (Cond.initialized "FrostDebts$Places") ∈ fd_gt := fd_gt_t (List.mem_of_getElem? (i := 6) (by decide +kernel)) (by decide +kernel)
theorem kw_79 : (Cond.static ({ cls := "FrostDebts$Places", name := "liftOf", desc := "(I)I" } : MethodName)) ∈ fd_gt := fd_gt_t (List.mem_of_getElem? (i := 298) (by decide +kernel)) (by decide +kernel)
theorem kw_80 : (Cond.methodLink "FrostDebts$Places" (52 : Nat) ({ cls := "FrostDebts$Places", name := "liftOf", desc := "(I)I" } : MethodName)) ∈ fd_gt := fd_gt_t (List.mem_of_getElem? (i := 297) (by decide +kernel)) (by decide +kernel)
theorem kw_81 : (Cond.fieldLink "FrostDebts$Sheet" (14 : Nat) "FrostDebts$Sheet" "items" "LFrostDebts$Row;") ∈ fd_gt := fd_gt_t (List.mem_of_getElem? (i := 201) (by decide +kernel)) (by decide +kernel)
theorem kw_82 : (Cond.methodLink "FrostDebts$Sheet" (31 : Nat) ({ cls := "FrostDebts$Row", name := "set", desc := "(II)V" } : MethodName)) ∈ fd_gt := fd_gt_t (List.mem_of_getElem? (i := 587) (by decide +kernel)) (by decide +kernel)
theorem kw_83 : (Cond.methodLink "FrostDebts$Sheet" (35 : Nat) ({ cls := "FrostDebts$Row", name := "at", desc := "(I)I" } : MethodName)) ∈ fd_gt := fd_gt_t (List.mem_of_getElem? (i := 621) (by decide +kernel)) (by decide +kernel)
theorem kw_84 : (Cond.code ({ cls := "FrostDebts$Spans", name := "at", desc := "(I)J" } : MethodName) prog_7_method_2_code (2 : Nat) (Option.some ClassFile.FieldType.long)) ∈ fd_gt := fd_gt_t (List.mem_of_getElem? (i := 340) (by decide +kernel)) (by decide +kernel)
theorem kw_85 : (Cond.initialized "FrostDebts$Spans") ∈ fd_gt := fd_gt_t (List.mem_of_getElem? (i := 8) (by decide +kernel)) (by decide +kernel)
theorem kw_86 : (Cond.instanceMethod ({ cls := "FrostDebts$Spans", name := "at", desc := "(I)J" } : MethodName)) ∈ fd_gt := fd_gt_t (List.mem_of_getElem? (i := 338) (by decide +kernel)) (by decide +kernel)
theorem kw_87 : (Cond.selects "FrostDebts$Spans" ({ cls := "FrostDebts$Spans", name := "at", desc := "(I)J" } : MethodName) ({ cls := "FrostDebts$Spans", name := "at", desc := "(I)J" } : MethodName)) ∈ fd_gt := fd_gt_t (List.mem_of_getElem? (i := 339) (by decide +kernel)) (by decide +kernel)
theorem kw_88 : (Cond.methodLink "FrostDebts$Spans" (15 : Nat) ({ cls := "FrostDebts$Spans", name := "at", desc := "(I)J" } : MethodName)) ∈ fd_gt := fd_gt_t (List.mem_of_getElem? (i := 431) (by decide +kernel)) (by decide +kernel)
theorem kw_89 : (Cond.code ({ cls := "FrostDebts", name := "bitsUpTo", desc := "(I)J" } : MethodName) prog_1_method_57_code (1 : Nat) (Option.some ClassFile.FieldType.long)) ∈ fd_gt := fd_gt_t (List.mem_of_getElem? (i := 451) (by decide +kernel)) (by decide +kernel)
theorem kw_90 : (Cond.static ({ cls := "FrostDebts", name := "bitsUpTo", desc := "(I)J" } : MethodName)) ∈ fd_gt := fd_gt_t (List.mem_of_getElem? (i := 450) (by decide +kernel)) (by decide +kernel)
theorem kw_91 : (Cond.fieldLink "FrostDebts$Text" (7 : Nat) "FrostDebts$Text" "length" "I") ∈ fd_gt := fd_gt_t (List.mem_of_getElem? (i := 48) (by decide +kernel)) (by decide +kernel)
theorem kw_92 : (Cond.fieldLink "FrostDebts$Text" (13 : Nat) "FrostDebts$Text" "room" "I") ∈ fd_gt := fd_gt_t (List.mem_of_getElem? (i := 47) (by decide +kernel)) (by decide +kernel)
theorem kw_93 : (Cond.fieldLink "FrostDebts$Text" (21 : Nat) "FrostDebts$Text" "bytes" "LFrostDebts$Row;") ∈ fd_gt := fd_gt_t (List.mem_of_getElem? (i := 42) (by decide +kernel)) (by decide +kernel)
theorem kw_94 : (Cond.methodLink "FrostDebts$Text" (25 : Nat) ({ cls := "FrostDebts$Row", name := "set", desc := "(II)V" } : MethodName)) ∈ fd_gt := fd_gt_t (List.mem_of_getElem? (i := 254) (by decide +kernel)) (by decide +kernel)
theorem kw_95 : (Cond.methodLink "FrostDebts$Weather" (64 : Nat) ({ cls := "java/lang/Math", name := "min", desc := "(II)I" } : MethodName)) ∈ fd_gt := fd_gt_t (List.mem_of_getElem? (i := 304) (by decide +kernel)) (by decide +kernel)
theorem kw_96 : (Cond.fieldLink "FrostDebts$Weather" (40 : Nat) "FrostDebts$Weather" "nights" "I") ∈ fd_gt := fd_gt_t (List.mem_of_getElem? (i := 139) (by decide +kernel)) (by decide +kernel)
theorem kw_97 : (Cond.fieldLink "FrostDebts$Weather" (36 : Nat) "FrostDebts$Weather" "warms" "LFrostDebts$Row;") ∈ fd_gt := fd_gt_t (List.mem_of_getElem? (i := 137) (by decide +kernel)) (by decide +kernel)
theorem kw_98 : (Cond.fieldLink "FrostDebts$Weather" (70 : Nat) "FrostDebts$Text" "bytes" "LFrostDebts$Row;") ∈ fd_gt := fd_gt_t (List.mem_of_getElem? (i := 43) (by decide +kernel)) (by decide +kernel)
theorem kw_99 : (Cond.methodLink "FrostDebts$Weather" (75 : Nat) ({ cls := "FrostDebts$Row", name := "at", desc := "(I)I" } : MethodName)) ∈ fd_gt := fd_gt_t (List.mem_of_getElem? (i := 305) (by decide +kernel)) (by decide +kernel)
theorem kw_100 : (Cond.methodLink "FrostDebts$Weather" (79 : Nat) ({ cls := "FrostDebts$Row", name := "set", desc := "(II)V" } : MethodName)) ∈ fd_gt := fd_gt_t (List.mem_of_getElem? (i := 306) (by decide +kernel)) (by decide +kernel)
theorem kw_101 : (Cond.fieldLink "FrostDebts$Weather" (12 : Nat) "FrostDebts$Weather" "places" "LFrostDebts$Places;") ∈ fd_gt := fd_gt_t (List.mem_of_getElem? (i := 129) (by decide +kernel)) (by decide +kernel)
theorem kw_102 : (Cond.fieldLink "FrostDebts$Weather" (103 : Nat) "FrostDebts$Places" "kinds" "LFrostDebts$Row;") ∈ fd_gt := fd_gt_t (List.mem_of_getElem? (i := 74) (by decide +kernel)) (by decide +kernel)
theorem kw_103 : (Cond.fieldLink "FrostDebts$Weather" (106 : Nat) "FrostDebts$Places" "lifts" "LFrostDebts$Row;") ∈ fd_gt := fd_gt_t (List.mem_of_getElem? (i := 77) (by decide +kernel)) (by decide +kernel)
theorem kw_104 : (Cond.fieldLink "FrostDebts$Weather" (44 : Nat) "FrostDebts$Weather" "zero" "I") ∈ fd_gt := fd_gt_t (List.mem_of_getElem? (i := 141) (by decide +kernel)) (by decide +kernel)
theorem kw_105 : (Cond.code ({ cls := "FrostDebts$Places", name := "has", desc := "(I)Z" } : MethodName) prog_4_method_4_code (2 : Nat) (Option.some ClassFile.FieldType.boolean)) ∈ fd_gt := fd_gt_t (List.mem_of_getElem? (i := 369) (by decide +kernel)) (by decide +kernel)
theorem kw_106 : (Cond.instanceMethod ({ cls := "FrostDebts$Places", name := "has", desc := "(I)Z" } : MethodName)) ∈ fd_gt := fd_gt_t (List.mem_of_getElem? (i := 367) (by decide +kernel)) (by decide +kernel)
theorem kw_107 : (Cond.selects "FrostDebts$Places" ({ cls := "FrostDebts$Places", name := "has", desc := "(I)Z" } : MethodName) ({ cls := "FrostDebts$Places", name := "has", desc := "(I)Z" } : MethodName)) ∈ fd_gt := fd_gt_t (List.mem_of_getElem? (i := 368) (by decide +kernel)) (by decide +kernel)
theorem kw_108 : (Cond.methodLink "FrostDebts" (80 : Nat) ({ cls := "FrostDebts$Places", name := "has", desc := "(I)Z" } : MethodName)) ∈ fd_gt := fd_gt_t (List.mem_of_getElem? (i := 366) (by decide +kernel)) (by decide +kernel)
theorem kw_109 : (Cond.code ({ cls := "FrostDebts", name := "isBelow", desc := "(II)Z" } : MethodName) prog_1_method_43_code (2 : Nat) (Option.some ClassFile.FieldType.boolean)) ∈ fd_gt := fd_gt_t (List.mem_of_getElem? (i := 249) (by decide +kernel)) (by decide +kernel)
theorem kw_110 : (Cond.static ({ cls := "FrostDebts", name := "isBelow", desc := "(II)Z" } : MethodName)) ∈ fd_gt := fd_gt_t (List.mem_of_getElem? (i := 248) (by decide +kernel)) (by decide +kernel)
theorem kw_111 : (Cond.methodLink "FrostDebts" (62 : Nat) ({ cls := "FrostDebts", name := "isBelow", desc := "(II)Z" } : MethodName)) ∈ fd_gt := fd_gt_t (List.mem_of_getElem? (i := 247) (by decide +kernel)) (by decide +kernel)
theorem kw_112 : (Cond.fieldLink "FrostDebts" (95 : Nat) "FrostDebts$Places" "kinds" "LFrostDebts$Row;") ∈ fd_gt := fd_gt_t (List.mem_of_getElem? (i := 75) (by decide +kernel)) (by decide +kernel)
theorem kw_113 : (Cond.methodLink "FrostDebts" (89 : Nat) ({ cls := "FrostDebts$Row", name := "at", desc := "(I)I" } : MethodName)) ∈ fd_gt := fd_gt_t (List.mem_of_getElem? (i := 268) (by decide +kernel)) (by decide +kernel)
theorem kw_114 : (Cond.fieldLink "FrostDebts" (85 : Nat) "FrostDebts$Places" "heights" "LFrostDebts$Row;") ∈ fd_gt := fd_gt_t (List.mem_of_getElem? (i := 72) (by decide +kernel)) (by decide +kernel)
theorem kw_115 : (Cond.fieldLink "FrostDebts" (101 : Nat) "FrostDebts$Weather" "warms" "LFrostDebts$Row;") ∈ fd_gt := fd_gt_t (List.mem_of_getElem? (i := 138) (by decide +kernel)) (by decide +kernel)
theorem kw_116 : (Cond.fieldLink "FrostDebts" (131 : Nat) "FrostDebts$Places" "lifts" "LFrostDebts$Row;") ∈ fd_gt := fd_gt_t (List.mem_of_getElem? (i := 78) (by decide +kernel)) (by decide +kernel)
theorem kw_117 : (Cond.fieldLink "FrostDebts" (134 : Nat) "FrostDebts$Weather" "iced" "LFrostDebts$Spans;") ∈ fd_gt := fd_gt_t (List.mem_of_getElem? (i := 146) (by decide +kernel)) (by decide +kernel)
theorem kw_118 : (Cond.methodLink "FrostDebts" (137 : Nat) ({ cls := "FrostDebts$Spans", name := "at", desc := "(I)J" } : MethodName)) ∈ fd_gt := fd_gt_t (List.mem_of_getElem? (i := 419) (by decide +kernel)) (by decide +kernel)
theorem kw_119 : (Cond.code ({ cls := "FrostDebts", name := "hasBit", desc := "(JI)Z" } : MethodName) prog_1_method_55_code (3 : Nat) (Option.some ClassFile.FieldType.boolean)) ∈ fd_gt := fd_gt_t (List.mem_of_getElem? (i := 422) (by decide +kernel)) (by decide +kernel)
theorem kw_120 : (Cond.static ({ cls := "FrostDebts", name := "hasBit", desc := "(JI)Z" } : MethodName)) ∈ fd_gt := fd_gt_t (List.mem_of_getElem? (i := 421) (by decide +kernel)) (by decide +kernel)
theorem kw_121 : (Cond.methodLink "FrostDebts" (140 : Nat) ({ cls := "FrostDebts", name := "hasBit", desc := "(JI)Z" } : MethodName)) ∈ fd_gt := fd_gt_t (List.mem_of_getElem? (i := 420) (by decide +kernel)) (by decide +kernel)
theorem kw_122 : (Cond.fieldLink "FrostDebts" (144 : Nat) "FrostDebts$Weather" "told" "LFrostDebts$Spans;") ∈ fd_gt := fd_gt_t (List.mem_of_getElem? (i := 148) (by decide +kernel)) (by decide +kernel)
theorem kw_123 : (Cond.fieldLink "FrostDebts" (54 : Nat) "FrostDebts" "sheets" "[LFrostDebts$Sheet;") ∈ fd_gt := fd_gt_t (List.mem_of_getElem? (i := 224) (by decide +kernel)) (by decide +kernel)
theorem kw_124 : (Cond.fieldLink "FrostDebts" (192 : Nat) "FrostDebts$Sheet" "isLost" "Z") ∈ fd_gt := fd_gt_t (List.mem_of_getElem? (i := 204) (by decide +kernel)) (by decide +kernel)
theorem kw_125 : (Cond.fieldLink "FrostDebts" (199 : Nat) "FrostDebts$Sheet" "size" "I") ∈ fd_gt := fd_gt_t (List.mem_of_getElem? (i := 208) (by decide +kernel)) (by decide +kernel)
theorem kw_126 : (Cond.code ({ cls := "FrostDebts", name := "find", desc := "(I)I" } : MethodName) prog_1_method_68_code (2 : Nat) (Option.some ClassFile.FieldType.int)) ∈ fd_gt := fd_gt_t (List.mem_of_getElem? (i := 526) (by decide +kernel)) (by decide +kernel)
theorem kw_127 : (Cond.instanceMethod ({ cls := "FrostDebts", name := "find", desc := "(I)I" } : MethodName)) ∈ fd_gt := fd_gt_t (List.mem_of_getElem? (i := 525) (by decide +kernel)) (by decide +kernel)
theorem kw_128 : (Cond.selects "FrostDebts" ({ cls := "FrostDebts", name := "find", desc := "(I)I" } : MethodName) ({ cls := "FrostDebts", name := "find", desc := "(I)I" } : MethodName)) ∈ fd_gt := fd_gt_s (List.mem_of_getElem? (i := 7) (by decide +kernel)) (by decide +kernel)
theorem kw_129 : (Cond.methodLink "FrostDebts" (196 : Nat) ({ cls := "FrostDebts", name := "find", desc := "(I)I" } : MethodName)) ∈ fd_gt := fd_gt_t (List.mem_of_getElem? (i := 523) (by decide +kernel)) (by decide +kernel)
theorem kw_130 : (Cond.code ({ cls := "FrostDebts$Sheet", name := "findingAt", desc := "(II)I" } : MethodName) prog_6_method_4_code (3 : Nat) (Option.some ClassFile.FieldType.int)) ∈ fd_gt := fd_gt_t (List.mem_of_getElem? (i := 599) (by decide +kernel)) (by decide +kernel)
theorem kw_131 : (Cond.initialized "FrostDebts$Sheet") ∈ fd_gt := fd_gt_t (List.mem_of_getElem? (i := 10) (by decide +kernel)) (by decide +kernel)
theorem kw_132 : (Cond.instanceMethod ({ cls := "FrostDebts$Sheet", name := "findingAt", desc := "(II)I" } : MethodName)) ∈ fd_gt := fd_gt_t (List.mem_of_getElem? (i := 597) (by decide +kernel)) (by decide +kernel)
theorem kw_133 : (Cond.selects "FrostDebts$Sheet" ({ cls := "FrostDebts$Sheet", name := "findingAt", desc := "(II)I" } : MethodName) ({ cls := "FrostDebts$Sheet", name := "findingAt", desc := "(II)I" } : MethodName)) ∈ fd_gt := fd_gt_t (List.mem_of_getElem? (i := 598) (by decide +kernel)) (by decide +kernel)
theorem kw_134 : (Cond.methodLink "FrostDebts" (248 : Nat) ({ cls := "FrostDebts$Sheet", name := "findingAt", desc := "(II)I" } : MethodName)) ∈ fd_gt := fd_gt_t (List.mem_of_getElem? (i := 596) (by decide +kernel)) (by decide +kernel)
theorem kw_135 : (Cond.constant "FrostDebts" (254 : Nat) (-2147483648 : Int32)) ∈ fd_gt := fd_gt_t (List.mem_of_getElem? (i := 608) (by decide +kernel)) (by decide +kernel)
theorem kw_136 : (Cond.fieldLink "FrostDebts" (200 : Nat) "FrostDebts$Sheet" "items" "LFrostDebts$Row;") ∈ fd_gt := fd_gt_t (List.mem_of_getElem? (i := 202) (by decide +kernel)) (by decide +kernel)
theorem kw_137 : (Cond.methodLink "FrostDebts" (328 : Nat) ({ cls := "FrostDebts", name := "kindOf", desc := "(I)I" } : MethodName)) ∈ fd_gt := fd_gt_t (List.mem_of_getElem? (i := 278) (by decide +kernel)) (by decide +kernel)
theorem kw_138 : (Cond.code ({ cls := "FrostDebts", name := "isFigure", desc := "(II)Z" } : MethodName) prog_1_method_50_code (2 : Nat) (Option.some ClassFile.FieldType.boolean)) ∈ fd_gt := fd_gt_t (List.mem_of_getElem? (i := 277) (by decide +kernel)) (by decide +kernel)
theorem kw_139 : (Cond.static ({ cls := "FrostDebts", name := "isFigure", desc := "(II)Z" } : MethodName)) ∈ fd_gt := fd_gt_t (List.mem_of_getElem? (i := 276) (by decide +kernel)) (by decide +kernel)
theorem kw_140 : (Cond.methodLink "FrostDebts" (325 : Nat) ({ cls := "FrostDebts", name := "isFigure", desc := "(II)Z" } : MethodName)) ∈ fd_gt := fd_gt_t (List.mem_of_getElem? (i := 275) (by decide +kernel)) (by decide +kernel)
theorem kw_141 : (Cond.code ({ cls := "java/lang/Long", name := "bitCount", desc := "(J)I" } : MethodName) prog_12_method_50_code (2 : Nat) (Option.some ClassFile.FieldType.int)) ∈ fd_gt := fd_gt_t (List.mem_of_getElem? (i := 437) (by decide +kernel)) (by decide +kernel)
theorem kw_142 : (Cond.initialized "java/lang/Long") ∈ fd_gt := fd_gt_t (List.mem_of_getElem? (i := 12) (by decide +kernel)) (by decide +kernel)
theorem kw_143 : (Cond.static ({ cls := "java/lang/Long", name := "bitCount", desc := "(J)I" } : MethodName)) ∈ fd_gt := fd_gt_t (List.mem_of_getElem? (i := 436) (by decide +kernel)) (by decide +kernel)
theorem kw_144 : (Cond.methodLink "FrostDebts" (183 : Nat) ({ cls := "java/lang/Long", name := "bitCount", desc := "(J)I" } : MethodName)) ∈ fd_gt := fd_gt_t (List.mem_of_getElem? (i := 435) (by decide +kernel)) (by decide +kernel)
theorem kw_145 : (Cond.code ({ cls := "FrostDebtsModel", name := "in", desc := "(III)Z" } : MethodName) prog_11_method_3_code (3 : Nat) (Option.some ClassFile.FieldType.boolean)) ∈ fd_gt := fd_gt_t (List.mem_of_getElem? (i := 790) (by decide +kernel)) (by decide +kernel)
theorem kw_146 : (Cond.initialized "FrostDebtsModel") ∈ fd_gt := fd_gt_t (List.mem_of_getElem? (i := 11) (by decide +kernel)) (by decide +kernel)
theorem kw_147 : (Cond.static ({ cls := "FrostDebtsModel", name := "in", desc := "(III)Z" } : MethodName)) ∈ fd_gt := fd_gt_t (List.mem_of_getElem? (i := 789) (by decide +kernel)) (by decide +kernel)
theorem kw_148 : (Cond.methodLink "FrostDebtsModel" (89 : Nat) ({ cls := "FrostDebtsModel", name := "in", desc := "(III)Z" } : MethodName)) ∈ fd_gt := fd_gt_t (List.mem_of_getElem? (i := 788) (by decide +kernel)) (by decide +kernel)
theorem kw_149 : (Cond.code ({ cls := "FrostDebtsModel", name := "byteAt", desc := "(II)I" } : MethodName) prog_11_method_13_code (3 : Nat) (Option.some ClassFile.FieldType.int)) ∈ fd_gt := fd_gt_t (List.mem_of_getElem? (i := 818) (by decide +kernel)) (by decide +kernel)
theorem kw_150 : (Cond.instanceMethod ({ cls := "FrostDebtsModel", name := "byteAt", desc := "(II)I" } : MethodName)) ∈ fd_gt := fd_gt_t (List.mem_of_getElem? (i := 817) (by decide +kernel)) (by decide +kernel)
theorem kw_151 : (Cond.selects "FrostDebtsModel" ({ cls := "FrostDebtsModel", name := "byteAt", desc := "(II)I" } : MethodName) ({ cls := "FrostDebtsModel", name := "byteAt", desc := "(II)I" } : MethodName)) ∈ fd_gt := fd_gt_s (List.mem_of_getElem? (i := 19) (by decide +kernel)) (by decide +kernel)
theorem kw_152 : (Cond.methodLink "FrostDebtsModel" (97 : Nat) ({ cls := "FrostDebtsModel", name := "byteAt", desc := "(II)I" } : MethodName)) ∈ fd_gt := fd_gt_t (List.mem_of_getElem? (i := 815) (by decide +kernel)) (by decide +kernel)
theorem kw_153 : (Cond.fieldLink "FrostDebtsModel" (117 : Nat) "FrostDebtsModel" "nights" "I") ∈ fd_gt := fd_gt_t (List.mem_of_getElem? (i := 691) (by decide +kernel)) (by decide +kernel)
theorem kw_154 : (Cond.fieldLink "FrostDebtsModel" (83 : Nat) "FrostDebtsModel" "zeroNow" "I") ∈ fd_gt := fd_gt_t (List.mem_of_getElem? (i := 699) (by decide +kernel)) (by decide +kernel)
theorem kw_155 : (Cond.code ({ cls := "FrostDebtsModel", name := "warmthBy", desc := "(II)I" } : MethodName) prog_11_method_37_code (4 : Nat) (Option.some ClassFile.FieldType.int)) ∈ fd_gt := fd_gt_t (List.mem_of_getElem? (i := 904) (by decide +kernel)) (by decide +kernel)
theorem kw_156 : (Cond.instanceMethod ({ cls := "FrostDebtsModel", name := "warmthBy", desc := "(II)I" } : MethodName)) ∈ fd_gt := fd_gt_t (List.mem_of_getElem? (i := 903) (by decide +kernel)) (by decide +kernel)
theorem kw_157 : (Cond.selects "FrostDebtsModel" ({ cls := "FrostDebtsModel", name := "warmthBy", desc := "(II)I" } : MethodName) ({ cls := "FrostDebtsModel", name := "warmthBy", desc := "(II)I" } : MethodName)) ∈ fd_gt := fd_gt_s (List.mem_of_getElem? (i := 30) (by decide +kernel)) (by decide +kernel)
theorem kw_158 : (Cond.methodLink "FrostDebtsModel" (159 : Nat) ({ cls := "FrostDebtsModel", name := "warmthBy", desc := "(II)I" } : MethodName)) ∈ fd_gt := fd_gt_t (List.mem_of_getElem? (i := 901) (by decide +kernel)) (by decide +kernel)
theorem kw_159 : (Cond.code ({ cls := "FrostDebtsModel", name := "isTold", desc := "(III)Z" } : MethodName) prog_11_method_36_code (6 : Nat) (Option.some ClassFile.FieldType.boolean)) ∈ fd_gt := fd_gt_t (List.mem_of_getElem? (i := 920) (by decide +kernel)) (by decide +kernel)
theorem kw_160 : (Cond.instanceMethod ({ cls := "FrostDebtsModel", name := "isTold", desc := "(III)Z" } : MethodName)) ∈ fd_gt := fd_gt_t (List.mem_of_getElem? (i := 919) (by decide +kernel)) (by decide +kernel)
theorem kw_161 : (Cond.selects "FrostDebtsModel" ({ cls := "FrostDebtsModel", name := "isTold", desc := "(III)Z" } : MethodName) ({ cls := "FrostDebtsModel", name := "isTold", desc := "(III)Z" } : MethodName)) ∈ fd_gt := fd_gt_s (List.mem_of_getElem? (i := 33) (by decide +kernel)) (by decide +kernel)
theorem kw_162 : (Cond.methodLink "FrostDebtsModel" (162 : Nat) ({ cls := "FrostDebtsModel", name := "isTold", desc := "(III)Z" } : MethodName)) ∈ fd_gt := fd_gt_t (List.mem_of_getElem? (i := 917) (by decide +kernel)) (by decide +kernel)
theorem kw_163 : (Cond.code ({ cls := "FrostDebtsModel", name := "hasHad", desc := "(II)Z" } : MethodName) prog_11_method_47_code (3 : Nat) (Option.some ClassFile.FieldType.boolean)) ∈ fd_gt := fd_gt_t (List.mem_of_getElem? (i := 952) (by decide +kernel)) (by decide +kernel)
theorem kw_164 : (Cond.instanceMethod ({ cls := "FrostDebtsModel", name := "hasHad", desc := "(II)Z" } : MethodName)) ∈ fd_gt := fd_gt_t (List.mem_of_getElem? (i := 951) (by decide +kernel)) (by decide +kernel)
theorem kw_165 : (Cond.selects "FrostDebtsModel" ({ cls := "FrostDebtsModel", name := "hasHad", desc := "(II)Z" } : MethodName) ({ cls := "FrostDebtsModel", name := "hasHad", desc := "(II)Z" } : MethodName)) ∈ fd_gt := fd_gt_s (List.mem_of_getElem? (i := 39) (by decide +kernel)) (by decide +kernel)
theorem kw_166 : (Cond.methodLink "FrostDebtsModel" (186 : Nat) ({ cls := "FrostDebtsModel", name := "hasHad", desc := "(II)Z" } : MethodName)) ∈ fd_gt := fd_gt_t (List.mem_of_getElem? (i := 949) (by decide +kernel)) (by decide +kernel)
theorem kw_167 : (Cond.fieldLink "FrostDebtsModel" (68 : Nat) "FrostDebtsModel" "isThere" "[Z") ∈ fd_gt := fd_gt_t (List.mem_of_getElem? (i := 711) (by decide +kernel)) (by decide +kernel)
theorem kw_168 : (Cond.fieldLink "FrostDebtsModel" (74 : Nat) "FrostDebtsModel" "sizes" "[I") ∈ fd_gt := fd_gt_t (List.mem_of_getElem? (i := 713) (by decide +kernel)) (by decide +kernel)
theorem kw_169 : (Cond.methodLink "FrostDebts$Debts" (24 : Nat) ({ cls := "java/lang/Math", name := "min", desc := "(II)I" } : MethodName)) ∈ fd_gt := fd_gt_t (List.mem_of_getElem? (i := 311) (by decide +kernel)) (by decide +kernel)
theorem kw_170 : (Cond.fieldLink "FrostDebts$Debts" (20 : Nat) "FrostDebts$Debts" "size" "I") ∈ fd_gt := fd_gt_t (List.mem_of_getElem? (i := 181) (by decide +kernel)) (by decide +kernel)
theorem kw_171 : (Cond.code ({ cls := "FrostDebts$Debts", name := "note", desc := "(III)V" } : MethodName) prog_2_method_4_code (4 : Nat) (Option.none : Option ClassFile.FieldType)) ∈ fd_gt := fd_gt_t (List.mem_of_getElem? (i := 316) (by decide +kernel)) (by decide +kernel)
theorem kw_172 : (Cond.initialized "FrostDebts$Debts") ∈ fd_gt := fd_gt_t (List.mem_of_getElem? (i := 9) (by decide +kernel)) (by decide +kernel)
theorem kw_173 : (Cond.instanceMethod ({ cls := "FrostDebts$Debts", name := "note", desc := "(III)V" } : MethodName)) ∈ fd_gt := fd_gt_t (List.mem_of_getElem? (i := 315) (by decide +kernel)) (by decide +kernel)
theorem kw_174 : (Cond.selects "FrostDebts$Debts" ({ cls := "FrostDebts$Debts", name := "note", desc := "(III)V" } : MethodName) ({ cls := "FrostDebts$Debts", name := "note", desc := "(III)V" } : MethodName)) ∈ fd_gt := fd_gt_s (List.mem_of_getElem? (i := 1) (by decide +kernel)) (by decide +kernel)
theorem kw_175 : (Cond.methodLink "FrostDebts$Debts" (39 : Nat) ({ cls := "FrostDebts$Debts", name := "note", desc := "(III)V" } : MethodName)) ∈ fd_gt := fd_gt_t (List.mem_of_getElem? (i := 313) (by decide +kernel)) (by decide +kernel)
theorem kw_176 : (Cond.code ({ cls := "FrostDebts$Debts", name := "twoFigures", desc := "(LFrostDebts$Text;I)I" } : MethodName) prog_2_method_3_code (2 : Nat) (Option.some ClassFile.FieldType.int)) ∈ fd_gt := fd_gt_t (List.mem_of_getElem? (i := 320) (by decide +kernel)) (by decide +kernel)
theorem kw_177 : (Cond.static ({ cls := "FrostDebts$Debts", name := "twoFigures", desc := "(LFrostDebts$Text;I)I" } : MethodName)) ∈ fd_gt := fd_gt_t (List.mem_of_getElem? (i := 319) (by decide +kernel)) (by decide +kernel)
theorem kw_178 : (Cond.methodLink "FrostDebts$Debts" (43 : Nat) ({ cls := "FrostDebts$Debts", name := "twoFigures", desc := "(LFrostDebts$Text;I)I" } : MethodName)) ∈ fd_gt := fd_gt_t (List.mem_of_getElem? (i := 318) (by decide +kernel)) (by decide +kernel)
theorem kw_179 : (Cond.code ({ cls := "FrostDebts", name := "countOrItem", desc := "(JI)I" } : MethodName) prog_1_method_58_code (5 : Nat) (Option.some ClassFile.FieldType.int)) ∈ fd_gt := fd_gt_t (List.mem_of_getElem? (i := 434) (by decide +kernel)) (by decide +kernel)
theorem kw_180 : (Cond.static ({ cls := "FrostDebts", name := "countOrItem", desc := "(JI)I" } : MethodName)) ∈ fd_gt := fd_gt_t (List.mem_of_getElem? (i := 433) (by decide +kernel)) (by decide +kernel)
theorem kw_181 : (Cond.fieldLink "FrostDebts$Weather" (54 : Nat) "FrostDebts$Weather" "smoked" "LFrostDebts$Spans;") ∈ fd_gt := fd_gt_t (List.mem_of_getElem? (i := 144) (by decide +kernel)) (by decide +kernel)
theorem kw_182 : (Cond.methodLink "FrostDebts$Weather" (97 : Nat) ({ cls := "FrostDebts$Spans", name := "at", desc := "(I)J" } : MethodName)) ∈ fd_gt := fd_gt_t (List.mem_of_getElem? (i := 337) (by decide +kernel)) (by decide +kernel)
theorem kw_183 : (Cond.constantLong "FrostDebts$Weather" (113 : Nat) (-1 : Int64)) ∈ fd_gt := fd_gt_t (List.mem_of_getElem? (i := 349) (by decide +kernel)) (by decide +kernel)
theorem kw_184 : (Cond.code ({ cls := "FrostDebts$Weather", name := "isCold", desc := "(III)Z" } : MethodName) prog_9_method_4_code (5 : Nat) (Option.some ClassFile.FieldType.boolean)) ∈ fd_gt := fd_gt_t (List.mem_of_getElem? (i := 348) (by decide +kernel)) (by decide +kernel)
theorem kw_185 : (Cond.initialized "FrostDebts$Weather") ∈ fd_gt := fd_gt_t (List.mem_of_getElem? (i := 5) (by decide +kernel)) (by decide +kernel)
theorem kw_186 : (Cond.instanceMethod ({ cls := "FrostDebts$Weather", name := "isCold", desc := "(III)Z" } : MethodName)) ∈ fd_gt := fd_gt_t (List.mem_of_getElem? (i := 346) (by decide +kernel)) (by decide +kernel)
theorem kw_187 : (Cond.selects "FrostDebts$Weather" ({ cls := "FrostDebts$Weather", name := "isCold", desc := "(III)Z" } : MethodName) ({ cls := "FrostDebts$Weather", name := "isCold", desc := "(III)Z" } : MethodName)) ∈ fd_gt := fd_gt_t (List.mem_of_getElem? (i := 347) (by decide +kernel)) (by decide +kernel)
theorem kw_188 : (Cond.methodLink "FrostDebts$Weather" (109 : Nat) ({ cls := "FrostDebts$Weather", name := "isCold", desc := "(III)Z" } : MethodName)) ∈ fd_gt := fd_gt_t (List.mem_of_getElem? (i := 345) (by decide +kernel)) (by decide +kernel)
theorem kw_189 : (Cond.fieldLink "FrostDebts$Weather" (47 : Nat) "FrostDebts$Weather" "clouded" "J") ∈ fd_gt := fd_gt_t (List.mem_of_getElem? (i := 143) (by decide +kernel)) (by decide +kernel)
theorem kw_190 : (Cond.fieldLink "FrostDebts$Weather" (61 : Nat) "FrostDebts$Weather" "told" "LFrostDebts$Spans;") ∈ fd_gt := fd_gt_t (List.mem_of_getElem? (i := 147) (by decide +kernel)) (by decide +kernel)
theorem kw_191 : (Cond.fieldLink "FrostDebts$Weather" (58 : Nat) "FrostDebts$Weather" "iced" "LFrostDebts$Spans;") ∈ fd_gt := fd_gt_t (List.mem_of_getElem? (i := 145) (by decide +kernel)) (by decide +kernel)
theorem kw_192 : (Cond.code ({ cls := "FrostDebts$Debts", name := "fact", desc := "(II)I" } : MethodName) prog_2_method_5_code (3 : Nat) (Option.some ClassFile.FieldType.int)) ∈ fd_gt := fd_gt_t (List.mem_of_getElem? (i := 381) (by decide +kernel)) (by decide +kernel)
theorem kw_193 : (Cond.instanceMethod ({ cls := "FrostDebts$Debts", name := "fact", desc := "(II)I" } : MethodName)) ∈ fd_gt := fd_gt_t (List.mem_of_getElem? (i := 379) (by decide +kernel)) (by decide +kernel)
theorem kw_194 : (Cond.selects "FrostDebts$Debts" ({ cls := "FrostDebts$Debts", name := "fact", desc := "(II)I" } : MethodName) ({ cls := "FrostDebts$Debts", name := "fact", desc := "(II)I" } : MethodName)) ∈ fd_gt := fd_gt_t (List.mem_of_getElem? (i := 380) (by decide +kernel)) (by decide +kernel)
theorem kw_195 : (Cond.methodLink "FrostDebts" (107 : Nat) ({ cls := "FrostDebts$Debts", name := "fact", desc := "(II)I" } : MethodName)) ∈ fd_gt := fd_gt_t (List.mem_of_getElem? (i := 378) (by decide +kernel)) (by decide +kernel)
theorem kw_196 : (Cond.code ({ cls := "FrostDebts$Spans", name := "isBy", desc := "(II)Z" } : MethodName) prog_7_method_4_code (3 : Nat) (Option.some ClassFile.FieldType.boolean)) ∈ fd_gt := fd_gt_t (List.mem_of_getElem? (i := 448) (by decide +kernel)) (by decide +kernel)
theorem kw_197 : (Cond.instanceMethod ({ cls := "FrostDebts$Spans", name := "isBy", desc := "(II)Z" } : MethodName)) ∈ fd_gt := fd_gt_t (List.mem_of_getElem? (i := 446) (by decide +kernel)) (by decide +kernel)
theorem kw_198 : (Cond.selects "FrostDebts$Spans" ({ cls := "FrostDebts$Spans", name := "isBy", desc := "(II)Z" } : MethodName) ({ cls := "FrostDebts$Spans", name := "isBy", desc := "(II)Z" } : MethodName)) ∈ fd_gt := fd_gt_t (List.mem_of_getElem? (i := 447) (by decide +kernel)) (by decide +kernel)
theorem kw_199 : (Cond.methodLink "FrostDebts" (151 : Nat) ({ cls := "FrostDebts$Spans", name := "isBy", desc := "(II)Z" } : MethodName)) ∈ fd_gt := fd_gt_t (List.mem_of_getElem? (i := 445) (by decide +kernel)) (by decide +kernel)
theorem kw_200 : (Cond.code ({ cls := "FrostDebts", name := "isChoice", desc := "(II)Z" } : MethodName) prog_1_method_44_code (2 : Nat) (Option.some ClassFile.FieldType.boolean)) ∈ fd_gt := fd_gt_t (List.mem_of_getElem? (i := 504) (by decide +kernel)) (by decide +kernel)
theorem kw_201 : (Cond.static ({ cls := "FrostDebts", name := "isChoice", desc := "(II)Z" } : MethodName)) ∈ fd_gt := fd_gt_t (List.mem_of_getElem? (i := 503) (by decide +kernel)) (by decide +kernel)
theorem kw_202 : (Cond.methodLink "FrostDebts" (173 : Nat) ({ cls := "FrostDebts", name := "isChoice", desc := "(II)Z" } : MethodName)) ∈ fd_gt := fd_gt_t (List.mem_of_getElem? (i := 502) (by decide +kernel)) (by decide +kernel)
theorem kw_203 : (Cond.methodLink "FrostDebts" (176 : Nat) ({ cls := "FrostDebts", name := "bitsUpTo", desc := "(I)J" } : MethodName)) ∈ fd_gt := fd_gt_t (List.mem_of_getElem? (i := 505) (by decide +kernel)) (by decide +kernel)
theorem kw_204 : (Cond.methodLink "FrostDebts" (179 : Nat) ({ cls := "FrostDebts", name := "countOrItem", desc := "(JI)I" } : MethodName)) ∈ fd_gt := fd_gt_t (List.mem_of_getElem? (i := 506) (by decide +kernel)) (by decide +kernel)
theorem kw_205 : (Cond.code ({ cls := "FrostDebts$Marks", name := "add", desc := "(III)Z" } : MethodName) prog_3_method_2_code (4 : Nat) (Option.some ClassFile.FieldType.boolean)) ∈ fd_gt := fd_gt_t (List.mem_of_getElem? (i := 397) (by decide +kernel)) (by decide +kernel)
theorem kw_206 : (Cond.initialized "FrostDebts$Marks") ∈ fd_gt := fd_gt_t (List.mem_of_getElem? (i := 7) (by decide +kernel)) (by decide +kernel)
theorem kw_207 : (Cond.instanceMethod ({ cls := "FrostDebts$Marks", name := "add", desc := "(III)Z" } : MethodName)) ∈ fd_gt := fd_gt_t (List.mem_of_getElem? (i := 395) (by decide +kernel)) (by decide +kernel)
theorem kw_208 : (Cond.selects "FrostDebts$Marks" ({ cls := "FrostDebts$Marks", name := "add", desc := "(III)Z" } : MethodName) ({ cls := "FrostDebts$Marks", name := "add", desc := "(III)Z" } : MethodName)) ∈ fd_gt := fd_gt_t (List.mem_of_getElem? (i := 396) (by decide +kernel)) (by decide +kernel)
theorem kw_209 : (Cond.methodLink "FrostDebts" (189 : Nat) ({ cls := "FrostDebts$Marks", name := "add", desc := "(III)Z" } : MethodName)) ∈ fd_gt := fd_gt_t (List.mem_of_getElem? (i := 394) (by decide +kernel)) (by decide +kernel)
theorem kw_210 : (Cond.code ({ cls := "FrostDebts$Sheet", name := "renew", desc := "(II)V" } : MethodName) prog_6_method_2_code (4 : Nat) (Option.none : Option ClassFile.FieldType)) ∈ fd_gt := fd_gt_t (List.mem_of_getElem? (i := 586) (by decide +kernel)) (by decide +kernel)
theorem kw_211 : (Cond.instanceMethod ({ cls := "FrostDebts$Sheet", name := "renew", desc := "(II)V" } : MethodName)) ∈ fd_gt := fd_gt_t (List.mem_of_getElem? (i := 584) (by decide +kernel)) (by decide +kernel)
theorem kw_212 : (Cond.selects "FrostDebts$Sheet" ({ cls := "FrostDebts$Sheet", name := "renew", desc := "(II)V" } : MethodName) ({ cls := "FrostDebts$Sheet", name := "renew", desc := "(II)V" } : MethodName)) ∈ fd_gt := fd_gt_t (List.mem_of_getElem? (i := 585) (by decide +kernel)) (by decide +kernel)
theorem kw_213 : (Cond.methodLink "FrostDebts" (244 : Nat) ({ cls := "FrostDebts$Sheet", name := "renew", desc := "(II)V" } : MethodName)) ∈ fd_gt := fd_gt_t (List.mem_of_getElem? (i := 583) (by decide +kernel)) (by decide +kernel)
theorem kw_214 : (Cond.code ({ cls := "FrostDebts$Sheet", name := "store", desc := "(II)V" } : MethodName) prog_6_method_3_code (3 : Nat) (Option.none : Option ClassFile.FieldType)) ∈ fd_gt := fd_gt_t (List.mem_of_getElem? (i := 603) (by decide +kernel)) (by decide +kernel)
theorem kw_215 : (Cond.instanceMethod ({ cls := "FrostDebts$Sheet", name := "store", desc := "(II)V" } : MethodName)) ∈ fd_gt := fd_gt_t (List.mem_of_getElem? (i := 601) (by decide +kernel)) (by decide +kernel)
theorem kw_216 : (Cond.selects "FrostDebts$Sheet" ({ cls := "FrostDebts$Sheet", name := "store", desc := "(II)V" } : MethodName) ({ cls := "FrostDebts$Sheet", name := "store", desc := "(II)V" } : MethodName)) ∈ fd_gt := fd_gt_t (List.mem_of_getElem? (i := 602) (by decide +kernel)) (by decide +kernel)
theorem kw_217 : (Cond.methodLink "FrostDebts" (251 : Nat) ({ cls := "FrostDebts$Sheet", name := "store", desc := "(II)V" } : MethodName)) ∈ fd_gt := fd_gt_t (List.mem_of_getElem? (i := 600) (by decide +kernel)) (by decide +kernel)
theorem kw_218 : (Cond.fieldLink "FrostDebts" (255 : Nat) "FrostDebts$Sheet" "form" "I") ∈ fd_gt := fd_gt_t (List.mem_of_getElem? (i := 206) (by decide +kernel)) (by decide +kernel)
theorem kw_219 : (Cond.code ({ cls := "FrostDebts$Sheet", name := "hasRange", desc := "(II)Z" } : MethodName) prog_6_method_5_code (3 : Nat) (Option.some ClassFile.FieldType.boolean)) ∈ fd_gt := fd_gt_t (List.mem_of_getElem? (i := 616) (by decide +kernel)) (by decide +kernel)
theorem kw_220 : (Cond.instanceMethod ({ cls := "FrostDebts$Sheet", name := "hasRange", desc := "(II)Z" } : MethodName)) ∈ fd_gt := fd_gt_t (List.mem_of_getElem? (i := 614) (by decide +kernel)) (by decide +kernel)
theorem kw_221 : (Cond.selects "FrostDebts$Sheet" ({ cls := "FrostDebts$Sheet", name := "hasRange", desc := "(II)Z" } : MethodName) ({ cls := "FrostDebts$Sheet", name := "hasRange", desc := "(II)Z" } : MethodName)) ∈ fd_gt := fd_gt_t (List.mem_of_getElem? (i := 615) (by decide +kernel)) (by decide +kernel)
theorem kw_222 : (Cond.methodLink "FrostDebts" (258 : Nat) ({ cls := "FrostDebts$Sheet", name := "hasRange", desc := "(II)Z" } : MethodName)) ∈ fd_gt := fd_gt_t (List.mem_of_getElem? (i := 613) (by decide +kernel)) (by decide +kernel)
theorem kw_223 : (Cond.code ({ cls := "FrostDebts$Sheet", name := "take", desc := "(LFrostDebts$Sheet;III)V" } : MethodName) prog_6_method_6_code (7 : Nat) (Option.none : Option ClassFile.FieldType)) ∈ fd_gt := fd_gt_t (List.mem_of_getElem? (i := 620) (by decide +kernel)) (by decide +kernel)
theorem kw_224 : (Cond.instanceMethod ({ cls := "FrostDebts$Sheet", name := "take", desc := "(LFrostDebts$Sheet;III)V" } : MethodName)) ∈ fd_gt := fd_gt_t (List.mem_of_getElem? (i := 618) (by decide +kernel)) (by decide +kernel)
theorem kw_225 : (Cond.selects "FrostDebts$Sheet" ({ cls := "FrostDebts$Sheet", name := "take", desc := "(LFrostDebts$Sheet;III)V" } : MethodName) ({ cls := "FrostDebts$Sheet", name := "take", desc := "(LFrostDebts$Sheet;III)V" } : MethodName)) ∈ fd_gt := fd_gt_t (List.mem_of_getElem? (i := 619) (by decide +kernel)) (by decide +kernel)
theorem kw_226 : (Cond.methodLink "FrostDebts" (261 : Nat) ({ cls := "FrostDebts$Sheet", name := "take", desc := "(LFrostDebts$Sheet;III)V" } : MethodName)) ∈ fd_gt := fd_gt_t (List.mem_of_getElem? (i := 617) (by decide +kernel)) (by decide +kernel)
theorem kw_227 : (Cond.fieldLink "FrostDebts" (316 : Nat) "FrostDebts$Text" "bytes" "LFrostDebts$Row;") ∈ fd_gt := fd_gt_t (List.mem_of_getElem? (i := 46) (by decide +kernel)) (by decide +kernel)
theorem kw_228 : (Cond.code ({ cls := "FrostDebts", name := "fitsDebt", desc := "(III)Z" } : MethodName) prog_1_method_48_code (3 : Nat) (Option.some ClassFile.FieldType.boolean)) ∈ fd_gt := fd_gt_t (List.mem_of_getElem? (i := 283) (by decide +kernel)) (by decide +kernel)
theorem kw_229 : (Cond.static ({ cls := "FrostDebts", name := "fitsDebt", desc := "(III)Z" } : MethodName)) ∈ fd_gt := fd_gt_t (List.mem_of_getElem? (i := 282) (by decide +kernel)) (by decide +kernel)
theorem kw_230 : (Cond.methodLink "FrostDebts" (322 : Nat) ({ cls := "FrostDebts", name := "fitsDebt", desc := "(III)Z" } : MethodName)) ∈ fd_gt := fd_gt_t (List.mem_of_getElem? (i := 281) (by decide +kernel)) (by decide +kernel)
theorem kw_231 : (Cond.code ({ cls := "FrostDebts", name := "fitsPlace", desc := "(II)Z" } : MethodName) prog_1_method_47_code (2 : Nat) (Option.some ClassFile.FieldType.boolean)) ∈ fd_gt := fd_gt_t (List.mem_of_getElem? (i := 274) (by decide +kernel)) (by decide +kernel)
theorem kw_232 : (Cond.static ({ cls := "FrostDebts", name := "fitsPlace", desc := "(II)Z" } : MethodName)) ∈ fd_gt := fd_gt_t (List.mem_of_getElem? (i := 273) (by decide +kernel)) (by decide +kernel)
theorem kw_233 : (Cond.methodLink "FrostDebts" (319 : Nat) ({ cls := "FrostDebts", name := "fitsPlace", desc := "(II)Z" } : MethodName)) ∈ fd_gt := fd_gt_t (List.mem_of_getElem? (i := 272) (by decide +kernel)) (by decide +kernel)
theorem kw_234 : (Cond.fieldLink "FrostDebts" (339 : Nat) "FrostDebts$Marks" "spots" "LFrostDebts$Row;") ∈ fd_gt := fd_gt_t (List.mem_of_getElem? (i := 102) (by decide +kernel)) (by decide +kernel)
theorem kw_235 : (Cond.fieldLink "FrostDebts" (342 : Nat) "FrostDebts$Marks" "nights" "LFrostDebts$Row;") ∈ fd_gt := fd_gt_t (List.mem_of_getElem? (i := 100) (by decide +kernel)) (by decide +kernel)
theorem kw_236 : (Cond.fieldLink "FrostDebts" (344 : Nat) "FrostDebts$Marks" "signs" "LFrostDebts$Row;") ∈ fd_gt := fd_gt_t (List.mem_of_getElem? (i := 104) (by decide +kernel)) (by decide +kernel)
theorem kw_237 : (Cond.code ({ cls := "FrostDebtsModel", name := "isText", desc := "(I)Z" } : MethodName) prog_11_method_7_code (1 : Nat) (Option.some ClassFile.FieldType.boolean)) ∈ fd_gt := fd_gt_t (List.mem_of_getElem? (i := 787) (by decide +kernel)) (by decide +kernel)
theorem kw_238 : (Cond.static ({ cls := "FrostDebtsModel", name := "isText", desc := "(I)Z" } : MethodName)) ∈ fd_gt := fd_gt_t (List.mem_of_getElem? (i := 786) (by decide +kernel)) (by decide +kernel)
theorem kw_239 : (Cond.methodLink "FrostDebtsModel" (93 : Nat) ({ cls := "FrostDebtsModel", name := "isText", desc := "(I)Z" } : MethodName)) ∈ fd_gt := fd_gt_t (List.mem_of_getElem? (i := 785) (by decide +kernel)) (by decide +kernel)
theorem kw_240 : (Cond.code ({ cls := "FrostDebtsModel", name := "isWell", desc := "(II)Z" } : MethodName) prog_11_method_15_code (4 : Nat) (Option.some ClassFile.FieldType.boolean)) ∈ fd_gt := fd_gt_t (List.mem_of_getElem? (i := 826) (by decide +kernel)) (by decide +kernel)
theorem kw_241 : (Cond.instanceMethod ({ cls := "FrostDebtsModel", name := "isWell", desc := "(II)Z" } : MethodName)) ∈ fd_gt := fd_gt_t (List.mem_of_getElem? (i := 825) (by decide +kernel)) (by decide +kernel)
theorem kw_242 : (Cond.selects "FrostDebtsModel" ({ cls := "FrostDebtsModel", name := "isWell", desc := "(II)Z" } : MethodName) ({ cls := "FrostDebtsModel", name := "isWell", desc := "(II)Z" } : MethodName)) ∈ fd_gt := fd_gt_s (List.mem_of_getElem? (i := 21) (by decide +kernel)) (by decide +kernel)
theorem kw_243 : (Cond.methodLink "FrostDebtsModel" (101 : Nat) ({ cls := "FrostDebtsModel", name := "isWell", desc := "(II)Z" } : MethodName)) ∈ fd_gt := fd_gt_t (List.mem_of_getElem? (i := 823) (by decide +kernel)) (by decide +kernel)
theorem kw_244 : (Cond.code ({ cls := "FrostDebtsModel", name := "isForty", desc := "(I)Z" } : MethodName) prog_11_method_8_code (1 : Nat) (Option.some ClassFile.FieldType.boolean)) ∈ fd_gt := fd_gt_t (List.mem_of_getElem? (i := 877) (by decide +kernel)) (by decide +kernel)
theorem kw_245 : (Cond.static ({ cls := "FrostDebtsModel", name := "isForty", desc := "(I)Z" } : MethodName)) ∈ fd_gt := fd_gt_t (List.mem_of_getElem? (i := 876) (by decide +kernel)) (by decide +kernel)
theorem kw_246 : (Cond.methodLink "FrostDebtsModel" (146 : Nat) ({ cls := "FrostDebtsModel", name := "isForty", desc := "(I)Z" } : MethodName)) ∈ fd_gt := fd_gt_t (List.mem_of_getElem? (i := 875) (by decide +kernel)) (by decide +kernel)
theorem kw_247 : (Cond.code ({ cls := "FrostDebtsModel", name := "isEight", desc := "(I)Z" } : MethodName) prog_11_method_9_code (1 : Nat) (Option.some ClassFile.FieldType.boolean)) ∈ fd_gt := fd_gt_t (List.mem_of_getElem? (i := 880) (by decide +kernel)) (by decide +kernel)
theorem kw_248 : (Cond.static ({ cls := "FrostDebtsModel", name := "isEight", desc := "(I)Z" } : MethodName)) ∈ fd_gt := fd_gt_t (List.mem_of_getElem? (i := 879) (by decide +kernel)) (by decide +kernel)
theorem kw_249 : (Cond.methodLink "FrostDebtsModel" (149 : Nat) ({ cls := "FrostDebtsModel", name := "isEight", desc := "(I)Z" } : MethodName)) ∈ fd_gt := fd_gt_t (List.mem_of_getElem? (i := 878) (by decide +kernel)) (by decide +kernel)
theorem kw_250 : (Cond.fieldLink "FrostDebtsModel" (49 : Nat) "FrostDebtsModel" "clouded" "[Z") ∈ fd_gt := fd_gt_t (List.mem_of_getElem? (i := 703) (by decide +kernel)) (by decide +kernel)
theorem kw_251 : (Cond.code ({ cls := "FrostDebtsModel", name := "isCold", desc := "(II)Z" } : MethodName) prog_11_method_38_code (4 : Nat) (Option.some ClassFile.FieldType.boolean)) ∈ fd_gt := fd_gt_t (List.mem_of_getElem? (i := 924) (by decide +kernel)) (by decide +kernel)
theorem kw_252 : (Cond.instanceMethod ({ cls := "FrostDebtsModel", name := "isCold", desc := "(II)Z" } : MethodName)) ∈ fd_gt := fd_gt_t (List.mem_of_getElem? (i := 923) (by decide +kernel)) (by decide +kernel)
theorem kw_253 : (Cond.selects "FrostDebtsModel" ({ cls := "FrostDebtsModel", name := "isCold", desc := "(II)Z" } : MethodName) ({ cls := "FrostDebtsModel", name := "isCold", desc := "(II)Z" } : MethodName)) ∈ fd_gt := fd_gt_s (List.mem_of_getElem? (i := 34) (by decide +kernel)) (by decide +kernel)
theorem kw_254 : (Cond.methodLink "FrostDebtsModel" (165 : Nat) ({ cls := "FrostDebtsModel", name := "isCold", desc := "(II)Z" } : MethodName)) ∈ fd_gt := fd_gt_t (List.mem_of_getElem? (i := 921) (by decide +kernel)) (by decide +kernel)
theorem kw_255 : (Cond.code ({ cls := "FrostDebtsModel", name := "isStanding", desc := "(III)Z" } : MethodName) prog_11_method_50_code (4 : Nat) (Option.some ClassFile.FieldType.boolean)) ∈ fd_gt := fd_gt_t (List.mem_of_getElem? (i := 964) (by decide +kernel)) (by decide +kernel)
theorem kw_256 : (Cond.instanceMethod ({ cls := "FrostDebtsModel", name := "isStanding", desc := "(III)Z" } : MethodName)) ∈ fd_gt := fd_gt_t (List.mem_of_getElem? (i := 963) (by decide +kernel)) (by decide +kernel)
theorem kw_257 : (Cond.selects "FrostDebtsModel" ({ cls := "FrostDebtsModel", name := "isStanding", desc := "(III)Z" } : MethodName) ({ cls := "FrostDebtsModel", name := "isStanding", desc := "(III)Z" } : MethodName)) ∈ fd_gt := fd_gt_s (List.mem_of_getElem? (i := 41) (by decide +kernel)) (by decide +kernel)
theorem kw_258 : (Cond.methodLink "FrostDebtsModel" (192 : Nat) ({ cls := "FrostDebtsModel", name := "isStanding", desc := "(III)Z" } : MethodName)) ∈ fd_gt := fd_gt_t (List.mem_of_getElem? (i := 961) (by decide +kernel)) (by decide +kernel)
theorem kw_259 : (Cond.fieldLink "FrostDebtsModel" (108 : Nat) "FrostDebtsModel" "debts" "I") ∈ fd_gt := fd_gt_t (List.mem_of_getElem? (i := 693) (by decide +kernel)) (by decide +kernel)
theorem kw_260 : (Cond.fieldLink "FrostDebtsModel" (59 : Nat) "FrostDebtsModel" "seenNight" "[I") ∈ fd_gt := fd_gt_t (List.mem_of_getElem? (i := 708) (by decide +kernel)) (by decide +kernel)
theorem kw_261 : (Cond.fieldLink "FrostDebtsModel" (62 : Nat) "FrostDebtsModel" "seenPlace" "[I") ∈ fd_gt := fd_gt_t (List.mem_of_getElem? (i := 709) (by decide +kernel)) (by decide +kernel)
theorem kw_262 : (Cond.fieldLink "FrostDebtsModel" (65 : Nat) "FrostDebtsModel" "seenIs" "[I") ∈ fd_gt := fd_gt_t (List.mem_of_getElem? (i := 710) (by decide +kernel)) (by decide +kernel)
theorem kw_263 : (Cond.code ({ cls := "FrostDebtsModel", name := "isSheet", desc := "(I)Z" } : MethodName) prog_11_method_88_code (1 : Nat) (Option.some ClassFile.FieldType.boolean)) ∈ fd_gt := fd_gt_t (List.mem_of_getElem? (i := 1059) (by decide +kernel)) (by decide +kernel)
theorem kw_264 : (Cond.static ({ cls := "FrostDebtsModel", name := "isSheet", desc := "(I)Z" } : MethodName)) ∈ fd_gt := fd_gt_t (List.mem_of_getElem? (i := 1058) (by decide +kernel)) (by decide +kernel)
theorem kw_265 : (Cond.methodLink "FrostDebtsModel" (238 : Nat) ({ cls := "FrostDebtsModel", name := "isSheet", desc := "(I)Z" } : MethodName)) ∈ fd_gt := fd_gt_t (List.mem_of_getElem? (i := 1057) (by decide +kernel)) (by decide +kernel)
theorem kw_266 : (Cond.code ({ cls := "FrostDebtsModel", name := "meets", desc := "(I)I" } : MethodName) prog_11_method_87_code (2 : Nat) (Option.some ClassFile.FieldType.int)) ∈ fd_gt := fd_gt_t (List.mem_of_getElem? (i := 1063) (by decide +kernel)) (by decide +kernel)
theorem kw_267 : (Cond.instanceMethod ({ cls := "FrostDebtsModel", name := "meets", desc := "(I)I" } : MethodName)) ∈ fd_gt := fd_gt_t (List.mem_of_getElem? (i := 1062) (by decide +kernel)) (by decide +kernel)
theorem kw_268 : (Cond.selects "FrostDebtsModel" ({ cls := "FrostDebtsModel", name := "meets", desc := "(I)I" } : MethodName) ({ cls := "FrostDebtsModel", name := "meets", desc := "(I)I" } : MethodName)) ∈ fd_gt := fd_gt_s (List.mem_of_getElem? (i := 54) (by decide +kernel)) (by decide +kernel)
theorem kw_269 : (Cond.methodLink "FrostDebtsModel" (241 : Nat) ({ cls := "FrostDebtsModel", name := "meets", desc := "(I)I" } : MethodName)) ∈ fd_gt := fd_gt_t (List.mem_of_getElem? (i := 1060) (by decide +kernel)) (by decide +kernel)
theorem kw_270 : (Cond.code ({ cls := "FrostDebtsModel", name := "lacks", desc := "(III)I" } : MethodName) prog_11_method_91_code (4 : Nat) (Option.some ClassFile.FieldType.int)) ∈ fd_gt := fd_gt_t (List.mem_of_getElem? (i := 1136) (by decide +kernel)) (by decide +kernel)
theorem kw_271 : (Cond.instanceMethod ({ cls := "FrostDebtsModel", name := "lacks", desc := "(III)I" } : MethodName)) ∈ fd_gt := fd_gt_t (List.mem_of_getElem? (i := 1135) (by decide +kernel)) (by decide +kernel)
theorem kw_272 : (Cond.selects "FrostDebtsModel" ({ cls := "FrostDebtsModel", name := "lacks", desc := "(III)I" } : MethodName) ({ cls := "FrostDebtsModel", name := "lacks", desc := "(III)I" } : MethodName)) ∈ fd_gt := fd_gt_s (List.mem_of_getElem? (i := 61) (by decide +kernel)) (by decide +kernel)
theorem kw_273 : (Cond.methodLink "FrostDebtsModel" (284 : Nat) ({ cls := "FrostDebtsModel", name := "lacks", desc := "(III)I" } : MethodName)) ∈ fd_gt := fd_gt_t (List.mem_of_getElem? (i := 1133) (by decide +kernel)) (by decide +kernel)
theorem kw_274 : (Cond.code ({ cls := "FrostDebtsModel", name := "keepsItem", desc := "(III)V" } : MethodName) prog_11_method_92_code (4 : Nat) (Option.none : Option ClassFile.FieldType)) ∈ fd_gt := fd_gt_t (List.mem_of_getElem? (i := 1140) (by decide +kernel)) (by decide +kernel)
theorem kw_275 : (Cond.instanceMethod ({ cls := "FrostDebtsModel", name := "keepsItem", desc := "(III)V" } : MethodName)) ∈ fd_gt := fd_gt_t (List.mem_of_getElem? (i := 1139) (by decide +kernel)) (by decide +kernel)
theorem kw_276 : (Cond.selects "FrostDebtsModel" ({ cls := "FrostDebtsModel", name := "keepsItem", desc := "(III)V" } : MethodName) ({ cls := "FrostDebtsModel", name := "keepsItem", desc := "(III)V" } : MethodName)) ∈ fd_gt := fd_gt_s (List.mem_of_getElem? (i := 62) (by decide +kernel)) (by decide +kernel)
theorem kw_277 : (Cond.methodLink "FrostDebtsModel" (287 : Nat) ({ cls := "FrostDebtsModel", name := "keepsItem", desc := "(III)V" } : MethodName)) ∈ fd_gt := fd_gt_t (List.mem_of_getElem? (i := 1137) (by decide +kernel)) (by decide +kernel)
theorem kw_278 : (Cond.constant "FrostDebtsModel" (291 : Nat) (-2147483648 : Int32)) ∈ fd_gt := fd_gt_t (List.mem_of_getElem? (i := 1145) (by decide +kernel)) (by decide +kernel)
theorem kw_279 : (Cond.fieldLink "FrostDebtsModel" (80 : Nat) "FrostDebtsModel" "moved" "[I") ∈ fd_gt := fd_gt_t (List.mem_of_getElem? (i := 715) (by decide +kernel)) (by decide +kernel)
theorem kw_280 : (Cond.fieldLink "FrostDebts$Weather" (21 : Nat) "FrostDebts$Weather" "clouds" "LFrostDebts$Marks;") ∈ fd_gt := fd_gt_t (List.mem_of_getElem? (i := 131) (by decide +kernel)) (by decide +kernel)
theorem kw_281 : (Cond.code ({ cls := "FrostDebts$Marks", name := "nightsAt", desc := "(II)J" } : MethodName) prog_3_method_3_code (6 : Nat) (Option.some ClassFile.FieldType.long)) ∈ fd_gt := fd_gt_t (List.mem_of_getElem? (i := 328) (by decide +kernel)) (by decide +kernel)
theorem kw_282 : (Cond.instanceMethod ({ cls := "FrostDebts$Marks", name := "nightsAt", desc := "(II)J" } : MethodName)) ∈ fd_gt := fd_gt_t (List.mem_of_getElem? (i := 326) (by decide +kernel)) (by decide +kernel)
theorem kw_283 : (Cond.selects "FrostDebts$Marks" ({ cls := "FrostDebts$Marks", name := "nightsAt", desc := "(II)J" } : MethodName) ({ cls := "FrostDebts$Marks", name := "nightsAt", desc := "(II)J" } : MethodName)) ∈ fd_gt := fd_gt_t (List.mem_of_getElem? (i := 327) (by decide +kernel)) (by decide +kernel)
theorem kw_284 : (Cond.methodLink "FrostDebts$Weather" (83 : Nat) ({ cls := "FrostDebts$Marks", name := "nightsAt", desc := "(II)J" } : MethodName)) ∈ fd_gt := fd_gt_t (List.mem_of_getElem? (i := 325) (by decide +kernel)) (by decide +kernel)
theorem kw_285 : (Cond.fieldLink "FrostDebts$Weather" (87 : Nat) "FrostDebts$Places" "size" "I") ∈ fd_gt := fd_gt_t (List.mem_of_getElem? (i := 80) (by decide +kernel)) (by decide +kernel)
theorem kw_286 : (Cond.fieldLink "FrostDebts$Weather" (25 : Nat) "FrostDebts$Weather" "smokes" "LFrostDebts$Marks;") ∈ fd_gt := fd_gt_t (List.mem_of_getElem? (i := 133) (by decide +kernel)) (by decide +kernel)
theorem kw_287 : (Cond.code ({ cls := "FrostDebts$Spans", name := "set", desc := "(IJ)V" } : MethodName) prog_7_method_3_code (4 : Nat) (Option.none : Option ClassFile.FieldType)) ∈ fd_gt := fd_gt_t (List.mem_of_getElem? (i := 333) (by decide +kernel)) (by decide +kernel)
theorem kw_288 : (Cond.instanceMethod ({ cls := "FrostDebts$Spans", name := "set", desc := "(IJ)V" } : MethodName)) ∈ fd_gt := fd_gt_t (List.mem_of_getElem? (i := 331) (by decide +kernel)) (by decide +kernel)
theorem kw_289 : (Cond.selects "FrostDebts$Spans" ({ cls := "FrostDebts$Spans", name := "set", desc := "(IJ)V" } : MethodName) ({ cls := "FrostDebts$Spans", name := "set", desc := "(IJ)V" } : MethodName)) ∈ fd_gt := fd_gt_t (List.mem_of_getElem? (i := 332) (by decide +kernel)) (by decide +kernel)
theorem kw_290 : (Cond.methodLink "FrostDebts$Weather" (90 : Nat) ({ cls := "FrostDebts$Spans", name := "set", desc := "(IJ)V" } : MethodName)) ∈ fd_gt := fd_gt_t (List.mem_of_getElem? (i := 330) (by decide +kernel)) (by decide +kernel)
theorem kw_291 : (Cond.fieldLink "FrostDebts$Weather" (28 : Nat) "FrostDebts$Weather" "ices" "LFrostDebts$Marks;") ∈ fd_gt := fd_gt_t (List.mem_of_getElem? (i := 135) (by decide +kernel)) (by decide +kernel)
theorem kw_292 : (Cond.code ({ cls := "FrostDebts", name := "bitsBelow", desc := "(I)J" } : MethodName) prog_1_method_56_code (1 : Nat) (Option.some ClassFile.FieldType.long)) ∈ fd_gt := fd_gt_t (List.mem_of_getElem? (i := 336) (by decide +kernel)) (by decide +kernel)
theorem kw_293 : (Cond.static ({ cls := "FrostDebts", name := "bitsBelow", desc := "(I)J" } : MethodName)) ∈ fd_gt := fd_gt_t (List.mem_of_getElem? (i := 335) (by decide +kernel)) (by decide +kernel)
theorem kw_294 : (Cond.code ({ cls := "FrostDebts$Weather", name := "frostNights", desc := "(IJJ)J" } : MethodName) prog_9_method_5_code (9 : Nat) (Option.some ClassFile.FieldType.long)) ∈ fd_gt := fd_gt_t (List.mem_of_getElem? (i := 344) (by decide +kernel)) (by decide +kernel)
theorem kw_295 : (Cond.instanceMethod ({ cls := "FrostDebts$Weather", name := "frostNights", desc := "(IJJ)J" } : MethodName)) ∈ fd_gt := fd_gt_t (List.mem_of_getElem? (i := 342) (by decide +kernel)) (by decide +kernel)
theorem kw_296 : (Cond.selects "FrostDebts$Weather" ({ cls := "FrostDebts$Weather", name := "frostNights", desc := "(IJJ)J" } : MethodName) ({ cls := "FrostDebts$Weather", name := "frostNights", desc := "(IJJ)J" } : MethodName)) ∈ fd_gt := fd_gt_t (List.mem_of_getElem? (i := 343) (by decide +kernel)) (by decide +kernel)
theorem kw_297 : (Cond.methodLink "FrostDebts$Weather" (99 : Nat) ({ cls := "FrostDebts$Weather", name := "frostNights", desc := "(IJJ)J" } : MethodName)) ∈ fd_gt := fd_gt_t (List.mem_of_getElem? (i := 341) (by decide +kernel)) (by decide +kernel)
theorem kw_298 : (Cond.code ({ cls := "FrostDebts$Spans", name := "firstOf", desc := "(I)I" } : MethodName) prog_7_method_5_code (2 : Nat) (Option.some ClassFile.FieldType.int)) ∈ fd_gt := fd_gt_t (List.mem_of_getElem? (i := 430) (by decide +kernel)) (by decide +kernel)
theorem kw_299 : (Cond.instanceMethod ({ cls := "FrostDebts$Spans", name := "firstOf", desc := "(I)I" } : MethodName)) ∈ fd_gt := fd_gt_t (List.mem_of_getElem? (i := 428) (by decide +kernel)) (by decide +kernel)
theorem kw_300 : (Cond.selects "FrostDebts$Spans" ({ cls := "FrostDebts$Spans", name := "firstOf", desc := "(I)I" } : MethodName) ({ cls := "FrostDebts$Spans", name := "firstOf", desc := "(I)I" } : MethodName)) ∈ fd_gt := fd_gt_t (List.mem_of_getElem? (i := 429) (by decide +kernel)) (by decide +kernel)
theorem kw_301 : (Cond.methodLink "FrostDebts" (147 : Nat) ({ cls := "FrostDebts$Spans", name := "firstOf", desc := "(I)I" } : MethodName)) ∈ fd_gt := fd_gt_t (List.mem_of_getElem? (i := 427) (by decide +kernel)) (by decide +kernel)
theorem kw_302 : (Cond.code ({ cls := "FrostDebts", name := "isStanding", desc := "(IILFrostDebts$Spans;)Z" } : MethodName) prog_1_method_59_code (5 : Nat) (Option.some ClassFile.FieldType.boolean)) ∈ fd_gt := fd_gt_t (List.mem_of_getElem? (i := 460) (by decide +kernel)) (by decide +kernel)
theorem kw_303 : (Cond.instanceMethod ({ cls := "FrostDebts", name := "isStanding", desc := "(IILFrostDebts$Spans;)Z" } : MethodName)) ∈ fd_gt := fd_gt_t (List.mem_of_getElem? (i := 459) (by decide +kernel)) (by decide +kernel)
theorem kw_304 : (Cond.selects "FrostDebts" ({ cls := "FrostDebts", name := "isStanding", desc := "(IILFrostDebts$Spans;)Z" } : MethodName) ({ cls := "FrostDebts", name := "isStanding", desc := "(IILFrostDebts$Spans;)Z" } : MethodName)) ∈ fd_gt := fd_gt_s (List.mem_of_getElem? (i := 3) (by decide +kernel)) (by decide +kernel)
theorem kw_305 : (Cond.methodLink "FrostDebts" (154 : Nat) ({ cls := "FrostDebts", name := "isStanding", desc := "(IILFrostDebts$Spans;)Z" } : MethodName)) ∈ fd_gt := fd_gt_t (List.mem_of_getElem? (i := 457) (by decide +kernel)) (by decide +kernel)
theorem kw_306 : (Cond.code ({ cls := "FrostDebts", name := "seen", desc := "(III)I" } : MethodName) prog_1_method_27_code (4 : Nat) (Option.some ClassFile.FieldType.int)) ∈ fd_gt := fd_gt_t (List.mem_of_getElem? (i := 514) (by decide +kernel)) (by decide +kernel)
theorem kw_307 : (Cond.instanceMethod ({ cls := "FrostDebts", name := "seen", desc := "(III)I" } : MethodName)) ∈ fd_gt := fd_gt_t (List.mem_of_getElem? (i := 512) (by decide +kernel)) (by decide +kernel)
theorem kw_308 : (Cond.selects "FrostDebts" ({ cls := "FrostDebts", name := "seen", desc := "(III)I" } : MethodName) ({ cls := "FrostDebts", name := "seen", desc := "(III)I" } : MethodName)) ∈ fd_gt := fd_gt_t (List.mem_of_getElem? (i := 513) (by decide +kernel)) (by decide +kernel)
theorem kw_309 : (Cond.methodLink "FrostDebts" (203 : Nat) ({ cls := "FrostDebts", name := "seen", desc := "(III)I" } : MethodName)) ∈ fd_gt := fd_gt_t (List.mem_of_getElem? (i := 527) (by decide +kernel)) (by decide +kernel)
theorem kw_310 : (Cond.fieldLink "FrostDebts" (47 : Nat) "FrostDebts" "trial" "LFrostDebts$Spans;") ∈ fd_gt := fd_gt_t (List.mem_of_getElem? (i := 223) (by decide +kernel)) (by decide +kernel)
theorem kw_311 : (Cond.code ({ cls := "FrostDebts", name := "isAsSeen", desc := "(LFrostDebts$Spans;)Z" } : MethodName) prog_1_method_64_code (5 : Nat) (Option.some ClassFile.FieldType.boolean)) ∈ fd_gt := fd_gt_t (List.mem_of_getElem? (i := 540) (by decide +kernel)) (by decide +kernel)
theorem kw_312 : (Cond.instanceMethod ({ cls := "FrostDebts", name := "isAsSeen", desc := "(LFrostDebts$Spans;)Z" } : MethodName)) ∈ fd_gt := fd_gt_t (List.mem_of_getElem? (i := 539) (by decide +kernel)) (by decide +kernel)
theorem kw_313 : (Cond.selects "FrostDebts" ({ cls := "FrostDebts", name := "isAsSeen", desc := "(LFrostDebts$Spans;)Z" } : MethodName) ({ cls := "FrostDebts", name := "isAsSeen", desc := "(LFrostDebts$Spans;)Z" } : MethodName)) ∈ fd_gt := fd_gt_s (List.mem_of_getElem? (i := 8) (by decide +kernel)) (by decide +kernel)
theorem kw_314 : (Cond.methodLink "FrostDebts" (214 : Nat) ({ cls := "FrostDebts", name := "isAsSeen", desc := "(LFrostDebts$Spans;)Z" } : MethodName)) ∈ fd_gt := fd_gt_t (List.mem_of_getElem? (i := 537) (by decide +kernel)) (by decide +kernel)
theorem kw_315 : (Cond.code ({ cls := "FrostDebts$Weather", name := "frostsIfWarm", desc := "(III)J" } : MethodName) prog_9_method_7_code (8 : Nat) (Option.some ClassFile.FieldType.long)) ∈ fd_gt := fd_gt_t (List.mem_of_getElem? (i := 535) (by decide +kernel)) (by decide +kernel)
theorem kw_316 : (Cond.instanceMethod ({ cls := "FrostDebts$Weather", name := "frostsIfWarm", desc := "(III)J" } : MethodName)) ∈ fd_gt := fd_gt_t (List.mem_of_getElem? (i := 533) (by decide +kernel)) (by decide +kernel)
theorem kw_317 : (Cond.selects "FrostDebts$Weather" ({ cls := "FrostDebts$Weather", name := "frostsIfWarm", desc := "(III)J" } : MethodName) ({ cls := "FrostDebts$Weather", name := "frostsIfWarm", desc := "(III)J" } : MethodName)) ∈ fd_gt := fd_gt_t (List.mem_of_getElem? (i := 534) (by decide +kernel)) (by decide +kernel)
theorem kw_318 : (Cond.methodLink "FrostDebts" (206 : Nat) ({ cls := "FrostDebts$Weather", name := "frostsIfWarm", desc := "(III)J" } : MethodName)) ∈ fd_gt := fd_gt_t (List.mem_of_getElem? (i := 532) (by decide +kernel)) (by decide +kernel)
theorem kw_319 : (Cond.methodLink "FrostDebts" (210 : Nat) ({ cls := "FrostDebts$Spans", name := "set", desc := "(IJ)V" } : MethodName)) ∈ fd_gt := fd_gt_t (List.mem_of_getElem? (i := 536) (by decide +kernel)) (by decide +kernel)
theorem kw_320 : (Cond.methodLink "FrostDebts" (230 : Nat) ({ cls := "FrostDebts$Weather", name := "frostNights", desc := "(IJJ)J" } : MethodName)) ∈ fd_gt := fd_gt_t (List.mem_of_getElem? (i := 563) (by decide +kernel)) (by decide +kernel)
theorem kw_321 : (Cond.code ({ cls := "FrostDebts", name := "power", desc := "(II)J" } : MethodName) prog_1_method_66_code (5 : Nat) (Option.some ClassFile.FieldType.long)) ∈ fd_gt := fd_gt_t (List.mem_of_getElem? (i := 566) (by decide +kernel)) (by decide +kernel)
theorem kw_322 : (Cond.static ({ cls := "FrostDebts", name := "power", desc := "(II)J" } : MethodName)) ∈ fd_gt := fd_gt_t (List.mem_of_getElem? (i := 565) (by decide +kernel)) (by decide +kernel)
theorem kw_323 : (Cond.methodLink "FrostDebts" (234 : Nat) ({ cls := "FrostDebts", name := "power", desc := "(II)J" } : MethodName)) ∈ fd_gt := fd_gt_t (List.mem_of_getElem? (i := 564) (by decide +kernel)) (by decide +kernel)
theorem kw_324 : (Cond.code ({ cls := "FrostDebts", name := "lowestTerm", desc := "(JJI)J" } : MethodName) prog_1_method_67_code (10 : Nat) (Option.some ClassFile.FieldType.long)) ∈ fd_gt := fd_gt_t (List.mem_of_getElem? (i := 569) (by decide +kernel)) (by decide +kernel)
theorem kw_325 : (Cond.static ({ cls := "FrostDebts", name := "lowestTerm", desc := "(JJI)J" } : MethodName)) ∈ fd_gt := fd_gt_t (List.mem_of_getElem? (i := 568) (by decide +kernel)) (by decide +kernel)
theorem kw_326 : (Cond.methodLink "FrostDebts" (237 : Nat) ({ cls := "FrostDebts", name := "lowestTerm", desc := "(JJI)J" } : MethodName)) ∈ fd_gt := fd_gt_t (List.mem_of_getElem? (i := 567) (by decide +kernel)) (by decide +kernel)
theorem kw_327 : (Cond.constantLong "FrostDebts" (228 : Nat) (-9223372036854775806 : Int64)) ∈ fd_gt := fd_gt_t (List.mem_of_getElem? (i := 562) (by decide +kernel)) (by decide +kernel)
theorem kw_328 : (Cond.code ({ cls := "FrostDebts", name := "cloudsBySeed", desc := "(I)J" } : MethodName) prog_1_method_54_code (6 : Nat) (Option.some ClassFile.FieldType.long)) ∈ fd_gt := fd_gt_t (List.mem_of_getElem? (i := 577) (by decide +kernel)) (by decide +kernel)
theorem kw_329 : (Cond.instanceMethod ({ cls := "FrostDebts", name := "cloudsBySeed", desc := "(I)J" } : MethodName)) ∈ fd_gt := fd_gt_t (List.mem_of_getElem? (i := 576) (by decide +kernel)) (by decide +kernel)
theorem kw_330 : (Cond.selects "FrostDebts" ({ cls := "FrostDebts", name := "cloudsBySeed", desc := "(I)J" } : MethodName) ({ cls := "FrostDebts", name := "cloudsBySeed", desc := "(I)J" } : MethodName)) ∈ fd_gt := fd_gt_s (List.mem_of_getElem? (i := 10) (by decide +kernel)) (by decide +kernel)
theorem kw_331 : (Cond.methodLink "FrostDebts" (241 : Nat) ({ cls := "FrostDebts", name := "cloudsBySeed", desc := "(I)J" } : MethodName)) ∈ fd_gt := fd_gt_t (List.mem_of_getElem? (i := 574) (by decide +kernel)) (by decide +kernel)
theorem kw_332 : (Cond.code ({ cls := "FrostDebts", name := "isEnded", desc := "(II)Z" } : MethodName) prog_1_method_49_code (3 : Nat) (Option.some ClassFile.FieldType.boolean)) ∈ fd_gt := fd_gt_t (List.mem_of_getElem? (i := 286) (by decide +kernel)) (by decide +kernel)
theorem kw_333 : (Cond.static ({ cls := "FrostDebts", name := "isEnded", desc := "(II)Z" } : MethodName)) ∈ fd_gt := fd_gt_t (List.mem_of_getElem? (i := 285) (by decide +kernel)) (by decide +kernel)
theorem kw_334 : (Cond.methodLink "FrostDebts" (313 : Nat) ({ cls := "FrostDebts", name := "isEnded", desc := "(II)Z" } : MethodName)) ∈ fd_gt := fd_gt_t (List.mem_of_getElem? (i := 284) (by decide +kernel)) (by decide +kernel)
theorem kw_335 : (Cond.code ({ cls := "FrostDebts", name := "fits", desc := "(ILFrostDebts$Text;I)Z" } : MethodName) prog_1_method_46_code (4 : Nat) (Option.some ClassFile.FieldType.boolean)) ∈ fd_gt := fd_gt_t (List.mem_of_getElem? (i := 267) (by decide +kernel)) (by decide +kernel)
theorem kw_336 : (Cond.static ({ cls := "FrostDebts", name := "fits", desc := "(ILFrostDebts$Text;I)Z" } : MethodName)) ∈ fd_gt := fd_gt_t (List.mem_of_getElem? (i := 266) (by decide +kernel)) (by decide +kernel)
theorem kw_337 : (Cond.methodLink "FrostDebts" (309 : Nat) ({ cls := "FrostDebts", name := "fits", desc := "(ILFrostDebts$Text;I)Z" } : MethodName)) ∈ fd_gt := fd_gt_t (List.mem_of_getElem? (i := 265) (by decide +kernel)) (by decide +kernel)
theorem kw_338 : (Cond.code ({ cls := "java/lang/Math", name := "max", desc := "(II)I" } : MethodName) prog_13_method_65_code (2 : Nat) (Option.some ClassFile.FieldType.int)) ∈ fd_gt := fd_gt_t (List.mem_of_getElem? (i := 36) (by decide +kernel)) (by decide +kernel)
theorem kw_339 : (Cond.static ({ cls := "java/lang/Math", name := "max", desc := "(II)I" } : MethodName)) ∈ fd_gt := fd_gt_t (List.mem_of_getElem? (i := 35) (by decide +kernel)) (by decide +kernel)
theorem kw_340 : (Cond.methodLink "FrostDebts" (168 : Nat) ({ cls := "java/lang/Math", name := "max", desc := "(II)I" } : MethodName)) ∈ fd_gt := fd_gt_t (List.mem_of_getElem? (i := 469) (by decide +kernel)) (by decide +kernel)
theorem kw_341 : (Cond.code ({ cls := "FrostDebtsModel", name := "readsDebt", desc := "(II)I" } : MethodName) prog_11_method_16_code (4 : Nat) (Option.some ClassFile.FieldType.int)) ∈ fd_gt := fd_gt_t (List.mem_of_getElem? (i := 822) (by decide +kernel)) (by decide +kernel)
theorem kw_342 : (Cond.instanceMethod ({ cls := "FrostDebtsModel", name := "readsDebt", desc := "(II)I" } : MethodName)) ∈ fd_gt := fd_gt_t (List.mem_of_getElem? (i := 821) (by decide +kernel)) (by decide +kernel)
theorem kw_343 : (Cond.selects "FrostDebtsModel" ({ cls := "FrostDebtsModel", name := "readsDebt", desc := "(II)I" } : MethodName) ({ cls := "FrostDebtsModel", name := "readsDebt", desc := "(II)I" } : MethodName)) ∈ fd_gt := fd_gt_s (List.mem_of_getElem? (i := 20) (by decide +kernel)) (by decide +kernel)
theorem kw_344 : (Cond.methodLink "FrostDebtsModel" (114 : Nat) ({ cls := "FrostDebtsModel", name := "readsDebt", desc := "(II)I" } : MethodName)) ∈ fd_gt := fd_gt_t (List.mem_of_getElem? (i := 819) (by decide +kernel)) (by decide +kernel)
theorem kw_345 : (Cond.code ({ cls := "FrostDebtsModel", name := "readsPlace", desc := "(II)I" } : MethodName) prog_11_method_14_code (6 : Nat) (Option.some ClassFile.FieldType.int)) ∈ fd_gt := fd_gt_t (List.mem_of_getElem? (i := 814) (by decide +kernel)) (by decide +kernel)
theorem kw_346 : (Cond.instanceMethod ({ cls := "FrostDebtsModel", name := "readsPlace", desc := "(II)I" } : MethodName)) ∈ fd_gt := fd_gt_t (List.mem_of_getElem? (i := 813) (by decide +kernel)) (by decide +kernel)
theorem kw_347 : (Cond.selects "FrostDebtsModel" ({ cls := "FrostDebtsModel", name := "readsPlace", desc := "(II)I" } : MethodName) ({ cls := "FrostDebtsModel", name := "readsPlace", desc := "(II)I" } : MethodName)) ∈ fd_gt := fd_gt_s (List.mem_of_getElem? (i := 18) (by decide +kernel)) (by decide +kernel)
theorem kw_348 : (Cond.methodLink "FrostDebtsModel" (111 : Nat) ({ cls := "FrostDebtsModel", name := "readsPlace", desc := "(II)I" } : MethodName)) ∈ fd_gt := fd_gt_t (List.mem_of_getElem? (i := 811) (by decide +kernel)) (by decide +kernel)
theorem kw_349 : (Cond.code ({ cls := "FrostDebtsModel", name := "more", desc := "(III)I" } : MethodName) prog_11_method_30_code (4 : Nat) (Option.some ClassFile.FieldType.int)) ∈ fd_gt := fd_gt_t (List.mem_of_getElem? (i := 874) (by decide +kernel)) (by decide +kernel)
theorem kw_350 : (Cond.instanceMethod ({ cls := "FrostDebtsModel", name := "more", desc := "(III)I" } : MethodName)) ∈ fd_gt := fd_gt_t (List.mem_of_getElem? (i := 873) (by decide +kernel)) (by decide +kernel)
theorem kw_351 : (Cond.selects "FrostDebtsModel" ({ cls := "FrostDebtsModel", name := "more", desc := "(III)I" } : MethodName) ({ cls := "FrostDebtsModel", name := "more", desc := "(III)I" } : MethodName)) ∈ fd_gt := fd_gt_s (List.mem_of_getElem? (i := 28) (by decide +kernel)) (by decide +kernel)
theorem kw_352 : (Cond.methodLink "FrostDebtsModel" (152 : Nat) ({ cls := "FrostDebtsModel", name := "more", desc := "(III)I" } : MethodName)) ∈ fd_gt := fd_gt_t (List.mem_of_getElem? (i := 871) (by decide +kernel)) (by decide +kernel)
theorem kw_353 : (Cond.code ({ cls := "FrostDebtsModel", name := "lays", desc := "()V" } : MethodName) prog_11_method_39_code (4 : Nat) (Option.none : Option ClassFile.FieldType)) ∈ fd_gt := fd_gt_t (List.mem_of_getElem? (i := 940) (by decide +kernel)) (by decide +kernel)
theorem kw_354 : (Cond.instanceMethod ({ cls := "FrostDebtsModel", name := "lays", desc := "()V" } : MethodName)) ∈ fd_gt := fd_gt_t (List.mem_of_getElem? (i := 939) (by decide +kernel)) (by decide +kernel)
theorem kw_355 : (Cond.selects "FrostDebtsModel" ({ cls := "FrostDebtsModel", name := "lays", desc := "()V" } : MethodName) ({ cls := "FrostDebtsModel", name := "lays", desc := "()V" } : MethodName)) ∈ fd_gt := fd_gt_s (List.mem_of_getElem? (i := 37) (by decide +kernel)) (by decide +kernel)
theorem kw_356 : (Cond.methodLink "FrostDebtsModel" (171 : Nat) ({ cls := "FrostDebtsModel", name := "lays", desc := "()V" } : MethodName)) ∈ fd_gt := fd_gt_t (List.mem_of_getElem? (i := 937) (by decide +kernel)) (by decide +kernel)
theorem kw_357 : (Cond.fieldLink "FrostDebtsModel" (56 : Nat) "FrostDebtsModel" "planRow" "[I") ∈ fd_gt := fd_gt_t (List.mem_of_getElem? (i := 706) (by decide +kernel)) (by decide +kernel)
theorem kw_358 : (Cond.code ({ cls := "FrostDebtsModel", name := "owesNow", desc := "(III)I" } : MethodName) prog_11_method_58_code (7 : Nat) (Option.some ClassFile.FieldType.int)) ∈ fd_gt := fd_gt_t (List.mem_of_getElem? (i := 996) (by decide +kernel)) (by decide +kernel)
theorem kw_359 : (Cond.instanceMethod ({ cls := "FrostDebtsModel", name := "owesNow", desc := "(III)I" } : MethodName)) ∈ fd_gt := fd_gt_t (List.mem_of_getElem? (i := 995) (by decide +kernel)) (by decide +kernel)
theorem kw_360 : (Cond.selects "FrostDebtsModel" ({ cls := "FrostDebtsModel", name := "owesNow", desc := "(III)I" } : MethodName) ({ cls := "FrostDebtsModel", name := "owesNow", desc := "(III)I" } : MethodName)) ∈ fd_gt := fd_gt_s (List.mem_of_getElem? (i := 46) (by decide +kernel)) (by decide +kernel)
theorem kw_361 : (Cond.methodLink "FrostDebtsModel" (207 : Nat) ({ cls := "FrostDebtsModel", name := "owesNow", desc := "(III)I" } : MethodName)) ∈ fd_gt := fd_gt_t (List.mem_of_getElem? (i := 993) (by decide +kernel)) (by decide +kernel)
theorem kw_362 : (Cond.code ({ cls := "FrostDebtsModel", name := "seen", desc := "(III)I" } : MethodName) prog_11_method_73_code (4 : Nat) (Option.some ClassFile.FieldType.int)) ∈ fd_gt := fd_gt_t (List.mem_of_getElem? (i := 1048) (by decide +kernel)) (by decide +kernel)
theorem kw_363 : (Cond.instanceMethod ({ cls := "FrostDebtsModel", name := "seen", desc := "(III)I" } : MethodName)) ∈ fd_gt := fd_gt_t (List.mem_of_getElem? (i := 1046) (by decide +kernel)) (by decide +kernel)
theorem kw_364 : (Cond.selects "FrostDebtsModel" ({ cls := "FrostDebtsModel", name := "seen", desc := "(III)I" } : MethodName) ({ cls := "FrostDebtsModel", name := "seen", desc := "(III)I" } : MethodName)) ∈ fd_gt := fd_gt_t (List.mem_of_getElem? (i := 1047) (by decide +kernel)) (by decide +kernel)
theorem kw_365 : (Cond.methodLink "FrostDebtsModel" (244 : Nat) ({ cls := "FrostDebtsModel", name := "seen", desc := "(III)I" } : MethodName)) ∈ fd_gt := fd_gt_t (List.mem_of_getElem? (i := 1064) (by decide +kernel)) (by decide +kernel)
theorem kw_366 : (Cond.code ({ cls := "FrostDebts", name := "faultOf", desc := "(ILFrostDebts$Text;)I" } : MethodName) prog_1_method_45_code (3 : Nat) (Option.some ClassFile.FieldType.int)) ∈ fd_gt := fd_gt_t (List.mem_of_getElem? (i := 264) (by decide +kernel)) (by decide +kernel)
theorem kw_367 : (Cond.static ({ cls := "FrostDebts", name := "faultOf", desc := "(ILFrostDebts$Text;)I" } : MethodName)) ∈ fd_gt := fd_gt_t (List.mem_of_getElem? (i := 263) (by decide +kernel)) (by decide +kernel)
theorem kw_368 : (Cond.methodLink "FrostDebts" (76 : Nat) ({ cls := "FrostDebts", name := "faultOf", desc := "(ILFrostDebts$Text;)I" } : MethodName)) ∈ fd_gt := fd_gt_t (List.mem_of_getElem? (i := 262) (by decide +kernel)) (by decide +kernel)
theorem kw_369 : (Cond.fieldLink "FrostDebts" (111 : Nat) "FrostDebts$Weather" "zero" "I") ∈ fd_gt := fd_gt_t (List.mem_of_getElem? (i := 142) (by decide +kernel)) (by decide +kernel)
theorem kw_370 : (Cond.code ({ cls := "FrostDebts$Weather", name := "settle", desc := "()V" } : MethodName) prog_9_method_3_code (2 : Nat) (Option.none : Option ClassFile.FieldType)) ∈ fd_gt := fd_gt_t (List.mem_of_getElem? (i := 324) (by decide +kernel)) (by decide +kernel)
theorem kw_371 : (Cond.instanceMethod ({ cls := "FrostDebts$Weather", name := "settle", desc := "()V" } : MethodName)) ∈ fd_gt := fd_gt_t (List.mem_of_getElem? (i := 322) (by decide +kernel)) (by decide +kernel)
theorem kw_372 : (Cond.selects "FrostDebts$Weather" ({ cls := "FrostDebts$Weather", name := "settle", desc := "()V" } : MethodName) ({ cls := "FrostDebts$Weather", name := "settle", desc := "()V" } : MethodName)) ∈ fd_gt := fd_gt_t (List.mem_of_getElem? (i := 323) (by decide +kernel)) (by decide +kernel)
theorem kw_373 : (Cond.methodLink "FrostDebts" (114 : Nat) ({ cls := "FrostDebts$Weather", name := "settle", desc := "()V" } : MethodName)) ∈ fd_gt := fd_gt_t (List.mem_of_getElem? (i := 321) (by decide +kernel)) (by decide +kernel)
theorem kw_374 : (Cond.code ({ cls := "FrostDebts", name := "isNothing", desc := "(I)Z" } : MethodName) prog_1_method_61_code (4 : Nat) (Option.some ClassFile.FieldType.boolean)) ∈ fd_gt := fd_gt_t (List.mem_of_getElem? (i := 473) (by decide +kernel)) (by decide +kernel)
theorem kw_375 : (Cond.instanceMethod ({ cls := "FrostDebts", name := "isNothing", desc := "(I)Z" } : MethodName)) ∈ fd_gt := fd_gt_t (List.mem_of_getElem? (i := 472) (by decide +kernel)) (by decide +kernel)
theorem kw_376 : (Cond.selects "FrostDebts" ({ cls := "FrostDebts", name := "isNothing", desc := "(I)Z" } : MethodName) ({ cls := "FrostDebts", name := "isNothing", desc := "(I)Z" } : MethodName)) ∈ fd_gt := fd_gt_s (List.mem_of_getElem? (i := 5) (by decide +kernel)) (by decide +kernel)
theorem kw_377 : (Cond.methodLink "FrostDebts" (161 : Nat) ({ cls := "FrostDebts", name := "isNothing", desc := "(I)Z" } : MethodName)) ∈ fd_gt := fd_gt_t (List.mem_of_getElem? (i := 470) (by decide +kernel)) (by decide +kernel)
theorem kw_378 : (Cond.code ({ cls := "FrostDebts", name := "nightsStood", desc := "(II)I" } : MethodName) prog_1_method_60_code (5 : Nat) (Option.some ClassFile.FieldType.int)) ∈ fd_gt := fd_gt_t (List.mem_of_getElem? (i := 468) (by decide +kernel)) (by decide +kernel)
theorem kw_379 : (Cond.instanceMethod ({ cls := "FrostDebts", name := "nightsStood", desc := "(II)I" } : MethodName)) ∈ fd_gt := fd_gt_t (List.mem_of_getElem? (i := 467) (by decide +kernel)) (by decide +kernel)
theorem kw_380 : (Cond.selects "FrostDebts" ({ cls := "FrostDebts", name := "nightsStood", desc := "(II)I" } : MethodName) ({ cls := "FrostDebts", name := "nightsStood", desc := "(II)I" } : MethodName)) ∈ fd_gt := fd_gt_s (List.mem_of_getElem? (i := 4) (by decide +kernel)) (by decide +kernel)
theorem kw_381 : (Cond.methodLink "FrostDebts" (158 : Nat) ({ cls := "FrostDebts", name := "nightsStood", desc := "(II)I" } : MethodName)) ∈ fd_gt := fd_gt_t (List.mem_of_getElem? (i := 465) (by decide +kernel)) (by decide +kernel)
theorem kw_382 : (Cond.code ({ cls := "FrostDebts", name := "sumOf", desc := "(III)I" } : MethodName) prog_1_method_62_code (6 : Nat) (Option.some ClassFile.FieldType.int)) ∈ fd_gt := fd_gt_t (List.mem_of_getElem? (i := 485) (by decide +kernel)) (by decide +kernel)
theorem kw_383 : (Cond.instanceMethod ({ cls := "FrostDebts", name := "sumOf", desc := "(III)I" } : MethodName)) ∈ fd_gt := fd_gt_t (List.mem_of_getElem? (i := 484) (by decide +kernel)) (by decide +kernel)
theorem kw_384 : (Cond.selects "FrostDebts" ({ cls := "FrostDebts", name := "sumOf", desc := "(III)I" } : MethodName) ({ cls := "FrostDebts", name := "sumOf", desc := "(III)I" } : MethodName)) ∈ fd_gt := fd_gt_s (List.mem_of_getElem? (i := 6) (by decide +kernel)) (by decide +kernel)
theorem kw_385 : (Cond.methodLink "FrostDebts" (164 : Nat) ({ cls := "FrostDebts", name := "sumOf", desc := "(III)I" } : MethodName)) ∈ fd_gt := fd_gt_t (List.mem_of_getElem? (i := 482) (by decide +kernel)) (by decide +kernel)
theorem kw_386 : (Cond.code ({ cls := "FrostDebts$Weather", name := "frostsWithout", desc := "(II)J" } : MethodName) prog_9_method_6_code (3 : Nat) (Option.some ClassFile.FieldType.long)) ∈ fd_gt := fd_gt_t (List.mem_of_getElem? (i := 548) (by decide +kernel)) (by decide +kernel)
theorem kw_387 : (Cond.instanceMethod ({ cls := "FrostDebts$Weather", name := "frostsWithout", desc := "(II)J" } : MethodName)) ∈ fd_gt := fd_gt_t (List.mem_of_getElem? (i := 546) (by decide +kernel)) (by decide +kernel)
theorem kw_388 : (Cond.selects "FrostDebts$Weather" ({ cls := "FrostDebts$Weather", name := "frostsWithout", desc := "(II)J" } : MethodName) ({ cls := "FrostDebts$Weather", name := "frostsWithout", desc := "(II)J" } : MethodName)) ∈ fd_gt := fd_gt_t (List.mem_of_getElem? (i := 547) (by decide +kernel)) (by decide +kernel)
theorem kw_389 : (Cond.methodLink "FrostDebts" (218 : Nat) ({ cls := "FrostDebts$Weather", name := "frostsWithout", desc := "(II)J" } : MethodName)) ∈ fd_gt := fd_gt_t (List.mem_of_getElem? (i := 545) (by decide +kernel)) (by decide +kernel)
theorem kw_390 : (Cond.code ({ cls := "FrostDebts", name := "was", desc := "(I)I" } : MethodName) prog_1_method_30_code (5 : Nat) (Option.some ClassFile.FieldType.int)) ∈ fd_gt := fd_gt_t (List.mem_of_getElem? (i := 531) (by decide +kernel)) (by decide +kernel)
theorem kw_391 : (Cond.instanceMethod ({ cls := "FrostDebts", name := "was", desc := "(I)I" } : MethodName)) ∈ fd_gt := fd_gt_t (List.mem_of_getElem? (i := 529) (by decide +kernel)) (by decide +kernel)
theorem kw_392 : (Cond.selects "FrostDebts" ({ cls := "FrostDebts", name := "was", desc := "(I)I" } : MethodName) ({ cls := "FrostDebts", name := "was", desc := "(I)I" } : MethodName)) ∈ fd_gt := fd_gt_t (List.mem_of_getElem? (i := 530) (by decide +kernel)) (by decide +kernel)
theorem kw_393 : (Cond.methodLink "FrostDebts" (222 : Nat) ({ cls := "FrostDebts", name := "was", desc := "(I)I" } : MethodName)) ∈ fd_gt := fd_gt_t (List.mem_of_getElem? (i := 553) (by decide +kernel)) (by decide +kernel)
theorem kw_394 : (Cond.code ({ cls := "FrostDebts", name := "leftAtWorst", desc := "(III)I" } : MethodName) prog_1_method_65_code (7 : Nat) (Option.some ClassFile.FieldType.int)) ∈ fd_gt := fd_gt_t (List.mem_of_getElem? (i := 557) (by decide +kernel)) (by decide +kernel)
theorem kw_395 : (Cond.instanceMethod ({ cls := "FrostDebts", name := "leftAtWorst", desc := "(III)I" } : MethodName)) ∈ fd_gt := fd_gt_t (List.mem_of_getElem? (i := 556) (by decide +kernel)) (by decide +kernel)
theorem kw_396 : (Cond.selects "FrostDebts" ({ cls := "FrostDebts", name := "leftAtWorst", desc := "(III)I" } : MethodName) ({ cls := "FrostDebts", name := "leftAtWorst", desc := "(III)I" } : MethodName)) ∈ fd_gt := fd_gt_s (List.mem_of_getElem? (i := 9) (by decide +kernel)) (by decide +kernel)
theorem kw_397 : (Cond.methodLink "FrostDebts" (225 : Nat) ({ cls := "FrostDebts", name := "leftAtWorst", desc := "(III)I" } : MethodName)) ∈ fd_gt := fd_gt_t (List.mem_of_getElem? (i := 554) (by decide +kernel)) (by decide +kernel)
theorem kw_398 : (Cond.code ({ cls := "FrostDebts$Debts", name := "parse", desc := "(LFrostDebts$Text;I)V" } : MethodName) prog_2_method_2_code (5 : Nat) (Option.none : Option ClassFile.FieldType)) ∈ fd_gt := fd_gt_t (List.mem_of_getElem? (i := 310) (by decide +kernel)) (by decide +kernel)
theorem kw_399 : (Cond.instanceMethod ({ cls := "FrostDebts$Debts", name := "parse", desc := "(LFrostDebts$Text;I)V" } : MethodName)) ∈ fd_gt := fd_gt_t (List.mem_of_getElem? (i := 308) (by decide +kernel)) (by decide +kernel)
theorem kw_400 : (Cond.selects "FrostDebts$Debts" ({ cls := "FrostDebts$Debts", name := "parse", desc := "(LFrostDebts$Text;I)V" } : MethodName) ({ cls := "FrostDebts$Debts", name := "parse", desc := "(LFrostDebts$Text;I)V" } : MethodName)) ∈ fd_gt := fd_gt_t (List.mem_of_getElem? (i := 309) (by decide +kernel)) (by decide +kernel)
theorem kw_401 : (Cond.methodLink "FrostDebts" (335 : Nat) ({ cls := "FrostDebts$Debts", name := "parse", desc := "(LFrostDebts$Text;I)V" } : MethodName)) ∈ fd_gt := fd_gt_t (List.mem_of_getElem? (i := 307) (by decide +kernel)) (by decide +kernel)
theorem kw_402 : (Cond.code ({ cls := "FrostDebts$Weather", name := "parse", desc := "(LFrostDebts$Text;I)V" } : MethodName) prog_9_method_2_code (4 : Nat) (Option.none : Option ClassFile.FieldType)) ∈ fd_gt := fd_gt_t (List.mem_of_getElem? (i := 303) (by decide +kernel)) (by decide +kernel)
theorem kw_403 : (Cond.instanceMethod ({ cls := "FrostDebts$Weather", name := "parse", desc := "(LFrostDebts$Text;I)V" } : MethodName)) ∈ fd_gt := fd_gt_t (List.mem_of_getElem? (i := 301) (by decide +kernel)) (by decide +kernel)
theorem kw_404 : (Cond.selects "FrostDebts$Weather" ({ cls := "FrostDebts$Weather", name := "parse", desc := "(LFrostDebts$Text;I)V" } : MethodName) ({ cls := "FrostDebts$Weather", name := "parse", desc := "(LFrostDebts$Text;I)V" } : MethodName)) ∈ fd_gt := fd_gt_t (List.mem_of_getElem? (i := 302) (by decide +kernel)) (by decide +kernel)
theorem kw_405 : (Cond.methodLink "FrostDebts" (334 : Nat) ({ cls := "FrostDebts$Weather", name := "parse", desc := "(LFrostDebts$Text;I)V" } : MethodName)) ∈ fd_gt := fd_gt_t (List.mem_of_getElem? (i := 300) (by decide +kernel)) (by decide +kernel)
theorem kw_406 : (Cond.code ({ cls := "FrostDebts$Places", name := "parse", desc := "(LFrostDebts$Text;I)V" } : MethodName) prog_4_method_2_code (4 : Nat) (Option.none : Option ClassFile.FieldType)) ∈ fd_gt := fd_gt_t (List.mem_of_getElem? (i := 290) (by decide +kernel)) (by decide +kernel)
theorem kw_407 : (Cond.instanceMethod ({ cls := "FrostDebts$Places", name := "parse", desc := "(LFrostDebts$Text;I)V" } : MethodName)) ∈ fd_gt := fd_gt_t (List.mem_of_getElem? (i := 288) (by decide +kernel)) (by decide +kernel)
theorem kw_408 : (Cond.selects "FrostDebts$Places" ({ cls := "FrostDebts$Places", name := "parse", desc := "(LFrostDebts$Text;I)V" } : MethodName) ({ cls := "FrostDebts$Places", name := "parse", desc := "(LFrostDebts$Text;I)V" } : MethodName)) ∈ fd_gt := fd_gt_t (List.mem_of_getElem? (i := 289) (by decide +kernel)) (by decide +kernel)
theorem kw_409 : (Cond.methodLink "FrostDebts" (331 : Nat) ({ cls := "FrostDebts$Places", name := "parse", desc := "(LFrostDebts$Text;I)V" } : MethodName)) ∈ fd_gt := fd_gt_t (List.mem_of_getElem? (i := 287) (by decide +kernel)) (by decide +kernel)
theorem kw_410 : (Cond.code ({ cls := "FrostDebts", name := "place", desc := "(II)I" } : MethodName) prog_1_method_6_code (3 : Nat) (Option.some ClassFile.FieldType.int)) ∈ fd_gt := fd_gt_t (List.mem_of_getElem? (i := 365) (by decide +kernel)) (by decide +kernel)
theorem kw_411 : (Cond.instanceMethod ({ cls := "FrostDebts", name := "place", desc := "(II)I" } : MethodName)) ∈ fd_gt := fd_gt_t (List.mem_of_getElem? (i := 363) (by decide +kernel)) (by decide +kernel)
theorem kw_412 : (Cond.selects "FrostDebts" ({ cls := "FrostDebts", name := "place", desc := "(II)I" } : MethodName) ({ cls := "FrostDebts", name := "place", desc := "(II)I" } : MethodName)) ∈ fd_gt := fd_gt_t (List.mem_of_getElem? (i := 364) (by decide +kernel)) (by decide +kernel)
theorem kw_413 : (Cond.methodLink "FrostDebts" (349 : Nat) ({ cls := "FrostDebts", name := "place", desc := "(II)I" } : MethodName)) ∈ fd_gt := fd_gt_t (List.mem_of_getElem? (i := 651) (by decide +kernel)) (by decide +kernel)
theorem kw_414 : (Cond.code ({ cls := "FrostDebts", name := "mix", desc := "(JJ)J" } : MethodName) prog_1_method_69_code (4 : Nat) (Option.some ClassFile.FieldType.long)) ∈ fd_gt := fd_gt_t (List.mem_of_getElem? (i := 644) (by decide +kernel)) (by decide +kernel)
theorem kw_415 : (Cond.static ({ cls := "FrostDebts", name := "mix", desc := "(JJ)J" } : MethodName)) ∈ fd_gt := fd_gt_t (List.mem_of_getElem? (i := 643) (by decide +kernel)) (by decide +kernel)
theorem kw_416 : (Cond.methodLink "FrostDebts" (279 : Nat) ({ cls := "FrostDebts", name := "mix", desc := "(JJ)J" } : MethodName)) ∈ fd_gt := fd_gt_t (List.mem_of_getElem? (i := 642) (by decide +kernel)) (by decide +kernel)
theorem kw_417 : (Cond.code ({ cls := "FrostDebts", name := "warmth", desc := "(II)I" } : MethodName) prog_1_method_14_code (3 : Nat) (Option.some ClassFile.FieldType.int)) ∈ fd_gt := fd_gt_t (List.mem_of_getElem? (i := 414) (by decide +kernel)) (by decide +kernel)
theorem kw_418 : (Cond.instanceMethod ({ cls := "FrostDebts", name := "warmth", desc := "(II)I" } : MethodName)) ∈ fd_gt := fd_gt_t (List.mem_of_getElem? (i := 412) (by decide +kernel)) (by decide +kernel)
theorem kw_419 : (Cond.selects "FrostDebts" ({ cls := "FrostDebts", name := "warmth", desc := "(II)I" } : MethodName) ({ cls := "FrostDebts", name := "warmth", desc := "(II)I" } : MethodName)) ∈ fd_gt := fd_gt_t (List.mem_of_getElem? (i := 413) (by decide +kernel)) (by decide +kernel)
theorem kw_420 : (Cond.methodLink "FrostDebts" (352 : Nat) ({ cls := "FrostDebts", name := "warmth", desc := "(II)I" } : MethodName)) ∈ fd_gt := fd_gt_t (List.mem_of_getElem? (i := 652) (by decide +kernel)) (by decide +kernel)
theorem kw_421 : (Cond.code ({ cls := "FrostDebts", name := "freezes", desc := "(II)I" } : MethodName) prog_1_method_15_code (3 : Nat) (Option.some ClassFile.FieldType.int)) ∈ fd_gt := fd_gt_t (List.mem_of_getElem? (i := 418) (by decide +kernel)) (by decide +kernel)
theorem kw_422 : (Cond.instanceMethod ({ cls := "FrostDebts", name := "freezes", desc := "(II)I" } : MethodName)) ∈ fd_gt := fd_gt_t (List.mem_of_getElem? (i := 416) (by decide +kernel)) (by decide +kernel)
theorem kw_423 : (Cond.selects "FrostDebts" ({ cls := "FrostDebts", name := "freezes", desc := "(II)I" } : MethodName) ({ cls := "FrostDebts", name := "freezes", desc := "(II)I" } : MethodName)) ∈ fd_gt := fd_gt_t (List.mem_of_getElem? (i := 417) (by decide +kernel)) (by decide +kernel)
theorem kw_424 : (Cond.methodLink "FrostDebts" (355 : Nat) ({ cls := "FrostDebts", name := "freezes", desc := "(II)I" } : MethodName)) ∈ fd_gt := fd_gt_t (List.mem_of_getElem? (i := 653) (by decide +kernel)) (by decide +kernel)
theorem kw_425 : (Cond.code ({ cls := "FrostDebts", name := "first", desc := "(I)I" } : MethodName) prog_1_method_16_code (2 : Nat) (Option.some ClassFile.FieldType.int)) ∈ fd_gt := fd_gt_t (List.mem_of_getElem? (i := 426) (by decide +kernel)) (by decide +kernel)
theorem kw_426 : (Cond.instanceMethod ({ cls := "FrostDebts", name := "first", desc := "(I)I" } : MethodName)) ∈ fd_gt := fd_gt_t (List.mem_of_getElem? (i := 424) (by decide +kernel)) (by decide +kernel)
theorem kw_427 : (Cond.selects "FrostDebts" ({ cls := "FrostDebts", name := "first", desc := "(I)I" } : MethodName) ({ cls := "FrostDebts", name := "first", desc := "(I)I" } : MethodName)) ∈ fd_gt := fd_gt_t (List.mem_of_getElem? (i := 425) (by decide +kernel)) (by decide +kernel)
theorem kw_428 : (Cond.methodLink "FrostDebts" (358 : Nat) ({ cls := "FrostDebts", name := "first", desc := "(I)I" } : MethodName)) ∈ fd_gt := fd_gt_t (List.mem_of_getElem? (i := 654) (by decide +kernel)) (by decide +kernel)
theorem kw_429 : (Cond.code ({ cls := "FrostDebts", name := "keep", desc := "(III)I" } : MethodName) prog_1_method_25_code (4 : Nat) (Option.some ClassFile.FieldType.int)) ∈ fd_gt := fd_gt_t (List.mem_of_getElem? (i := 501) (by decide +kernel)) (by decide +kernel)
theorem kw_430 : (Cond.instanceMethod ({ cls := "FrostDebts", name := "keep", desc := "(III)I" } : MethodName)) ∈ fd_gt := fd_gt_t (List.mem_of_getElem? (i := 499) (by decide +kernel)) (by decide +kernel)
theorem kw_431 : (Cond.selects "FrostDebts" ({ cls := "FrostDebts", name := "keep", desc := "(III)I" } : MethodName) ({ cls := "FrostDebts", name := "keep", desc := "(III)I" } : MethodName)) ∈ fd_gt := fd_gt_t (List.mem_of_getElem? (i := 500) (by decide +kernel)) (by decide +kernel)
theorem kw_432 : (Cond.methodLink "FrostDebts" (361 : Nat) ({ cls := "FrostDebts", name := "keep", desc := "(III)I" } : MethodName)) ∈ fd_gt := fd_gt_t (List.mem_of_getElem? (i := 655) (by decide +kernel)) (by decide +kernel)
theorem kw_433 : (Cond.code ({ cls := "FrostDebts", name := "chance", desc := "(IIII)J" } : MethodName) prog_1_method_33_code (6 : Nat) (Option.some ClassFile.FieldType.long)) ∈ fd_gt := fd_gt_t (List.mem_of_getElem? (i := 561) (by decide +kernel)) (by decide +kernel)
theorem kw_434 : (Cond.instanceMethod ({ cls := "FrostDebts", name := "chance", desc := "(IIII)J" } : MethodName)) ∈ fd_gt := fd_gt_t (List.mem_of_getElem? (i := 559) (by decide +kernel)) (by decide +kernel)
theorem kw_435 : (Cond.selects "FrostDebts" ({ cls := "FrostDebts", name := "chance", desc := "(IIII)J" } : MethodName) ({ cls := "FrostDebts", name := "chance", desc := "(IIII)J" } : MethodName)) ∈ fd_gt := fd_gt_t (List.mem_of_getElem? (i := 560) (by decide +kernel)) (by decide +kernel)
theorem kw_436 : (Cond.methodLink "FrostDebts" (364 : Nat) ({ cls := "FrostDebts", name := "chance", desc := "(IIII)J" } : MethodName)) ∈ fd_gt := fd_gt_t (List.mem_of_getElem? (i := 656) (by decide +kernel)) (by decide +kernel)
theorem kw_437 : (Cond.code ({ cls := "FrostDebts", name := "year", desc := "(II)I" } : MethodName) prog_1_method_34_code (7 : Nat) (Option.some ClassFile.FieldType.int)) ∈ fd_gt := fd_gt_t (List.mem_of_getElem? (i := 573) (by decide +kernel)) (by decide +kernel)
theorem kw_438 : (Cond.instanceMethod ({ cls := "FrostDebts", name := "year", desc := "(II)I" } : MethodName)) ∈ fd_gt := fd_gt_t (List.mem_of_getElem? (i := 571) (by decide +kernel)) (by decide +kernel)
theorem kw_439 : (Cond.selects "FrostDebts" ({ cls := "FrostDebts", name := "year", desc := "(II)I" } : MethodName) ({ cls := "FrostDebts", name := "year", desc := "(II)I" } : MethodName)) ∈ fd_gt := fd_gt_t (List.mem_of_getElem? (i := 572) (by decide +kernel)) (by decide +kernel)
theorem kw_440 : (Cond.methodLink "FrostDebts" (306 : Nat) ({ cls := "FrostDebts", name := "year", desc := "(II)I" } : MethodName)) ∈ fd_gt := fd_gt_t (List.mem_of_getElem? (i := 657) (by decide +kernel)) (by decide +kernel)
theorem kw_441 : (Cond.code ({ cls := "FrostDebtsModel", name := "readsParts", desc := "(I)I" } : MethodName) prog_11_method_17_code (7 : Nat) (Option.some ClassFile.FieldType.int)) ∈ fd_gt := fd_gt_t (List.mem_of_getElem? (i := 810) (by decide +kernel)) (by decide +kernel)
theorem kw_442 : (Cond.instanceMethod ({ cls := "FrostDebtsModel", name := "readsParts", desc := "(I)I" } : MethodName)) ∈ fd_gt := fd_gt_t (List.mem_of_getElem? (i := 809) (by decide +kernel)) (by decide +kernel)
theorem kw_443 : (Cond.selects "FrostDebtsModel" ({ cls := "FrostDebtsModel", name := "readsParts", desc := "(I)I" } : MethodName) ({ cls := "FrostDebtsModel", name := "readsParts", desc := "(I)I" } : MethodName)) ∈ fd_gt := fd_gt_s (List.mem_of_getElem? (i := 17) (by decide +kernel)) (by decide +kernel)
theorem kw_444 : (Cond.methodLink "FrostDebtsModel" (120 : Nat) ({ cls := "FrostDebtsModel", name := "readsParts", desc := "(I)I" } : MethodName)) ∈ fd_gt := fd_gt_t (List.mem_of_getElem? (i := 807) (by decide +kernel)) (by decide +kernel)
theorem kw_445 : (Cond.code ({ cls := "FrostDebtsModel", name := "readsNights", desc := "()I" } : MethodName) prog_11_method_18_code (3 : Nat) (Option.some ClassFile.FieldType.int)) ∈ fd_gt := fd_gt_t (List.mem_of_getElem? (i := 830) (by decide +kernel)) (by decide +kernel)
theorem kw_446 : (Cond.instanceMethod ({ cls := "FrostDebtsModel", name := "readsNights", desc := "()I" } : MethodName)) ∈ fd_gt := fd_gt_t (List.mem_of_getElem? (i := 829) (by decide +kernel)) (by decide +kernel)
theorem kw_447 : (Cond.selects "FrostDebtsModel" ({ cls := "FrostDebtsModel", name := "readsNights", desc := "()I" } : MethodName) ({ cls := "FrostDebtsModel", name := "readsNights", desc := "()I" } : MethodName)) ∈ fd_gt := fd_gt_s (List.mem_of_getElem? (i := 22) (by decide +kernel)) (by decide +kernel)
theorem kw_448 : (Cond.methodLink "FrostDebtsModel" (124 : Nat) ({ cls := "FrostDebtsModel", name := "readsNights", desc := "()I" } : MethodName)) ∈ fd_gt := fd_gt_t (List.mem_of_getElem? (i := 827) (by decide +kernel)) (by decide +kernel)
theorem kw_449 : (Cond.code ({ cls := "FrostDebts$Text", name := "add", desc := "(I)Z" } : MethodName) prog_8_method_2_code (2 : Nat) (Option.some ClassFile.FieldType.boolean)) ∈ fd_gt := fd_gt_t (List.mem_of_getElem? (i := 253) (by decide +kernel)) (by decide +kernel)
theorem kw_450 : (Cond.initialized "FrostDebts$Text") ∈ fd_gt := fd_gt_t (List.mem_of_getElem? (i := 2) (by decide +kernel)) (by decide +kernel)
theorem kw_451 : (Cond.instanceMethod ({ cls := "FrostDebts$Text", name := "add", desc := "(I)Z" } : MethodName)) ∈ fd_gt := fd_gt_t (List.mem_of_getElem? (i := 251) (by decide +kernel)) (by decide +kernel)
theorem kw_452 : (Cond.selects "FrostDebts$Text" ({ cls := "FrostDebts$Text", name := "add", desc := "(I)Z" } : MethodName) ({ cls := "FrostDebts$Text", name := "add", desc := "(I)Z" } : MethodName)) ∈ fd_gt := fd_gt_t (List.mem_of_getElem? (i := 252) (by decide +kernel)) (by decide +kernel)
theorem kw_453 : (Cond.methodLink "FrostDebts" (66 : Nat) ({ cls := "FrostDebts$Text", name := "add", desc := "(I)Z" } : MethodName)) ∈ fd_gt := fd_gt_t (List.mem_of_getElem? (i := 250) (by decide +kernel)) (by decide +kernel)
theorem kw_454 : (Cond.code ({ cls := "FrostDebts", name := "parse", desc := "(I)V" } : MethodName) prog_1_method_52_code (4 : Nat) (Option.none : Option ClassFile.FieldType)) ∈ fd_gt := fd_gt_t (List.mem_of_getElem? (i := 261) (by decide +kernel)) (by decide +kernel)
theorem kw_455 : (Cond.instanceMethod ({ cls := "FrostDebts", name := "parse", desc := "(I)V" } : MethodName)) ∈ fd_gt := fd_gt_t (List.mem_of_getElem? (i := 260) (by decide +kernel)) (by decide +kernel)
theorem kw_456 : (Cond.selects "FrostDebts" ({ cls := "FrostDebts", name := "parse", desc := "(I)V" } : MethodName) ({ cls := "FrostDebts", name := "parse", desc := "(I)V" } : MethodName)) ∈ fd_gt := fd_gt_s (List.mem_of_getElem? (i := 0) (by decide +kernel)) (by decide +kernel)
theorem kw_457 : (Cond.methodLink "FrostDebts" (70 : Nat) ({ cls := "FrostDebts", name := "parse", desc := "(I)V" } : MethodName)) ∈ fd_gt := fd_gt_t (List.mem_of_getElem? (i := 258) (by decide +kernel)) (by decide +kernel)
theorem kw_458 : (Cond.code ({ cls := "FrostDebts", name := "addMark", desc := "(LFrostDebts$Marks;II)I" } : MethodName) prog_1_method_53_code (4 : Nat) (Option.some ClassFile.FieldType.int)) ∈ fd_gt := fd_gt_t (List.mem_of_getElem? (i := 393) (by decide +kernel)) (by decide +kernel)
theorem kw_459 : (Cond.instanceMethod ({ cls := "FrostDebts", name := "addMark", desc := "(LFrostDebts$Marks;II)I" } : MethodName)) ∈ fd_gt := fd_gt_t (List.mem_of_getElem? (i := 392) (by decide +kernel)) (by decide +kernel)
theorem kw_460 : (Cond.selects "FrostDebts" ({ cls := "FrostDebts", name := "addMark", desc := "(LFrostDebts$Marks;II)I" } : MethodName) ({ cls := "FrostDebts", name := "addMark", desc := "(LFrostDebts$Marks;II)I" } : MethodName)) ∈ fd_gt := fd_gt_s (List.mem_of_getElem? (i := 2) (by decide +kernel)) (by decide +kernel)
theorem kw_461 : (Cond.methodLink "FrostDebts" (120 : Nat) ({ cls := "FrostDebts", name := "addMark", desc := "(LFrostDebts$Marks;II)I" } : MethodName)) ∈ fd_gt := fd_gt_t (List.mem_of_getElem? (i := 390) (by decide +kernel)) (by decide +kernel)
theorem kw_462 : (Cond.methodLink "FrostDebts" (265 : Nat) ({ cls := "java/lang/Math", name := "min", desc := "(II)I" } : MethodName)) ∈ fd_gt := fd_gt_t (List.mem_of_getElem? (i := 626) (by decide +kernel)) (by decide +kernel)
theorem kw_463 : (Cond.code ({ cls := "FrostDebts", name := "hangs", desc := "(I)I" } : MethodName) prog_1_method_22_code (4 : Nat) (Option.some ClassFile.FieldType.int)) ∈ fd_gt := fd_gt_t (List.mem_of_getElem? (i := 489) (by decide +kernel)) (by decide +kernel)
theorem kw_464 : (Cond.instanceMethod ({ cls := "FrostDebts", name := "hangs", desc := "(I)I" } : MethodName)) ∈ fd_gt := fd_gt_t (List.mem_of_getElem? (i := 487) (by decide +kernel)) (by decide +kernel)
theorem kw_465 : (Cond.selects "FrostDebts" ({ cls := "FrostDebts", name := "hangs", desc := "(I)I" } : MethodName) ({ cls := "FrostDebts", name := "hangs", desc := "(I)I" } : MethodName)) ∈ fd_gt := fd_gt_t (List.mem_of_getElem? (i := 488) (by decide +kernel)) (by decide +kernel)
theorem kw_466 : (Cond.methodLink "FrostDebts" (271 : Nat) ({ cls := "FrostDebts", name := "hangs", desc := "(I)I" } : MethodName)) ∈ fd_gt := fd_gt_t (List.mem_of_getElem? (i := 631) (by decide +kernel)) (by decide +kernel)
theorem kw_467 : (Cond.code ({ cls := "FrostDebts", name := "sumOfAll", desc := "(I)I" } : MethodName) prog_1_method_63_code (4 : Nat) (Option.some ClassFile.FieldType.int)) ∈ fd_gt := fd_gt_t (List.mem_of_getElem? (i := 630) (by decide +kernel)) (by decide +kernel)
theorem kw_468 : (Cond.instanceMethod ({ cls := "FrostDebts", name := "sumOfAll", desc := "(I)I" } : MethodName)) ∈ fd_gt := fd_gt_t (List.mem_of_getElem? (i := 629) (by decide +kernel)) (by decide +kernel)
theorem kw_469 : (Cond.selects "FrostDebts" ({ cls := "FrostDebts", name := "sumOfAll", desc := "(I)I" } : MethodName) ({ cls := "FrostDebts", name := "sumOfAll", desc := "(I)I" } : MethodName)) ∈ fd_gt := fd_gt_s (List.mem_of_getElem? (i := 11) (by decide +kernel)) (by decide +kernel)
theorem kw_470 : (Cond.methodLink "FrostDebts" (268 : Nat) ({ cls := "FrostDebts", name := "sumOfAll", desc := "(I)I" } : MethodName)) ∈ fd_gt := fd_gt_t (List.mem_of_getElem? (i := 627) (by decide +kernel)) (by decide +kernel)
theorem kw_471 : (Cond.code ({ cls := "FrostDebts", name := "lasts", desc := "(II)I" } : MethodName) prog_1_method_19_code (3 : Nat) (Option.some ClassFile.FieldType.int)) ∈ fd_gt := fd_gt_t (List.mem_of_getElem? (i := 464) (by decide +kernel)) (by decide +kernel)
theorem kw_472 : (Cond.instanceMethod ({ cls := "FrostDebts", name := "lasts", desc := "(II)I" } : MethodName)) ∈ fd_gt := fd_gt_t (List.mem_of_getElem? (i := 462) (by decide +kernel)) (by decide +kernel)
theorem kw_473 : (Cond.selects "FrostDebts" ({ cls := "FrostDebts", name := "lasts", desc := "(II)I" } : MethodName) ({ cls := "FrostDebts", name := "lasts", desc := "(II)I" } : MethodName)) ∈ fd_gt := fd_gt_t (List.mem_of_getElem? (i := 463) (by decide +kernel)) (by decide +kernel)
theorem kw_474 : (Cond.methodLink "FrostDebts" (371 : Nat) ({ cls := "FrostDebts", name := "lasts", desc := "(II)I" } : MethodName)) ∈ fd_gt := fd_gt_t (List.mem_of_getElem? (i := 663) (by decide +kernel)) (by decide +kernel)
theorem kw_475 : (Cond.code ({ cls := "FrostDebts", name := "where", desc := "(III)I" } : MethodName) prog_1_method_24_code (8 : Nat) (Option.some ClassFile.FieldType.int)) ∈ fd_gt := fd_gt_t (List.mem_of_getElem? (i := 497) (by decide +kernel)) (by decide +kernel)
theorem kw_476 : (Cond.instanceMethod ({ cls := "FrostDebts", name := "where", desc := "(III)I" } : MethodName)) ∈ fd_gt := fd_gt_t (List.mem_of_getElem? (i := 495) (by decide +kernel)) (by decide +kernel)
theorem kw_477 : (Cond.selects "FrostDebts" ({ cls := "FrostDebts", name := "where", desc := "(III)I" } : MethodName) ({ cls := "FrostDebts", name := "where", desc := "(III)I" } : MethodName)) ∈ fd_gt := fd_gt_t (List.mem_of_getElem? (i := 496) (by decide +kernel)) (by decide +kernel)
theorem kw_478 : (Cond.methodLink "FrostDebts" (374 : Nat) ({ cls := "FrostDebts", name := "where", desc := "(III)I" } : MethodName)) ∈ fd_gt := fd_gt_t (List.mem_of_getElem? (i := 664) (by decide +kernel)) (by decide +kernel)
theorem kw_479 : (Cond.code ({ cls := "FrostDebts", name := "debt", desc := "(II)I" } : MethodName) prog_1_method_8_code (3 : Nat) (Option.some ClassFile.FieldType.int)) ∈ fd_gt := fd_gt_t (List.mem_of_getElem? (i := 377) (by decide +kernel)) (by decide +kernel)
theorem kw_480 : (Cond.instanceMethod ({ cls := "FrostDebts", name := "debt", desc := "(II)I" } : MethodName)) ∈ fd_gt := fd_gt_t (List.mem_of_getElem? (i := 375) (by decide +kernel)) (by decide +kernel)
theorem kw_481 : (Cond.selects "FrostDebts" ({ cls := "FrostDebts", name := "debt", desc := "(II)I" } : MethodName) ({ cls := "FrostDebts", name := "debt", desc := "(II)I" } : MethodName)) ∈ fd_gt := fd_gt_t (List.mem_of_getElem? (i := 376) (by decide +kernel)) (by decide +kernel)
theorem kw_482 : (Cond.methodLink "FrostDebts" (368 : Nat) ({ cls := "FrostDebts", name := "debt", desc := "(II)I" } : MethodName)) ∈ fd_gt := fd_gt_t (List.mem_of_getElem? (i := 662) (by decide +kernel)) (by decide +kernel)
theorem kw_483 : (Cond.code ({ cls := "FrostDebts", name := "owes", desc := "(III)I" } : MethodName) prog_1_method_21_code (4 : Nat) (Option.some ClassFile.FieldType.int)) ∈ fd_gt := fd_gt_t (List.mem_of_getElem? (i := 481) (by decide +kernel)) (by decide +kernel)
theorem kw_484 : (Cond.instanceMethod ({ cls := "FrostDebts", name := "owes", desc := "(III)I" } : MethodName)) ∈ fd_gt := fd_gt_t (List.mem_of_getElem? (i := 479) (by decide +kernel)) (by decide +kernel)
theorem kw_485 : (Cond.selects "FrostDebts" ({ cls := "FrostDebts", name := "owes", desc := "(III)I" } : MethodName) ({ cls := "FrostDebts", name := "owes", desc := "(III)I" } : MethodName)) ∈ fd_gt := fd_gt_t (List.mem_of_getElem? (i := 480) (by decide +kernel)) (by decide +kernel)
theorem kw_486 : (Cond.methodLink "FrostDebts" (377 : Nat) ({ cls := "FrostDebts", name := "owes", desc := "(III)I" } : MethodName)) ∈ fd_gt := fd_gt_t (List.mem_of_getElem? (i := 669) (by decide +kernel)) (by decide +kernel)
theorem kw_487 : (Cond.code ({ cls := "FrostDebts", name := "free", desc := "(II)I" } : MethodName) prog_1_method_23_code (6 : Nat) (Option.some ClassFile.FieldType.int)) ∈ fd_gt := fd_gt_t (List.mem_of_getElem? (i := 493) (by decide +kernel)) (by decide +kernel)
theorem kw_488 : (Cond.instanceMethod ({ cls := "FrostDebts", name := "free", desc := "(II)I" } : MethodName)) ∈ fd_gt := fd_gt_t (List.mem_of_getElem? (i := 491) (by decide +kernel)) (by decide +kernel)
theorem kw_489 : (Cond.selects "FrostDebts" ({ cls := "FrostDebts", name := "free", desc := "(II)I" } : MethodName) ({ cls := "FrostDebts", name := "free", desc := "(II)I" } : MethodName)) ∈ fd_gt := fd_gt_t (List.mem_of_getElem? (i := 492) (by decide +kernel)) (by decide +kernel)
theorem kw_490 : (Cond.methodLink "FrostDebts" (380 : Nat) ({ cls := "FrostDebts", name := "free", desc := "(II)I" } : MethodName)) ∈ fd_gt := fd_gt_t (List.mem_of_getElem? (i := 670) (by decide +kernel)) (by decide +kernel)
theorem kw_491 : (Cond.code ({ cls := "FrostDebts", name := "carry", desc := "(III)I" } : MethodName) prog_1_method_26_code (7 : Nat) (Option.some ClassFile.FieldType.int)) ∈ fd_gt := fd_gt_t (List.mem_of_getElem? (i := 510) (by decide +kernel)) (by decide +kernel)
theorem kw_492 : (Cond.instanceMethod ({ cls := "FrostDebts", name := "carry", desc := "(III)I" } : MethodName)) ∈ fd_gt := fd_gt_t (List.mem_of_getElem? (i := 508) (by decide +kernel)) (by decide +kernel)
theorem kw_493 : (Cond.selects "FrostDebts" ({ cls := "FrostDebts", name := "carry", desc := "(III)I" } : MethodName) ({ cls := "FrostDebts", name := "carry", desc := "(III)I" } : MethodName)) ∈ fd_gt := fd_gt_t (List.mem_of_getElem? (i := 509) (by decide +kernel)) (by decide +kernel)
theorem kw_494 : (Cond.methodLink "FrostDebts" (383 : Nat) ({ cls := "FrostDebts", name := "carry", desc := "(III)I" } : MethodName)) ∈ fd_gt := fd_gt_t (List.mem_of_getElem? (i := 671) (by decide +kernel)) (by decide +kernel)
theorem kw_495 : (Cond.code ({ cls := "FrostDebts", name := "had", desc := "(I)I" } : MethodName) prog_1_method_17_code (4 : Nat) (Option.some ClassFile.FieldType.int)) ∈ fd_gt := fd_gt_t (List.mem_of_getElem? (i := 444) (by decide +kernel)) (by decide +kernel)
theorem kw_496 : (Cond.instanceMethod ({ cls := "FrostDebts", name := "had", desc := "(I)I" } : MethodName)) ∈ fd_gt := fd_gt_t (List.mem_of_getElem? (i := 442) (by decide +kernel)) (by decide +kernel)
theorem kw_497 : (Cond.selects "FrostDebts" ({ cls := "FrostDebts", name := "had", desc := "(I)I" } : MethodName) ({ cls := "FrostDebts", name := "had", desc := "(I)I" } : MethodName)) ∈ fd_gt := fd_gt_t (List.mem_of_getElem? (i := 443) (by decide +kernel)) (by decide +kernel)
theorem kw_498 : (Cond.methodLink "FrostDebts" (386 : Nat) ({ cls := "FrostDebts", name := "had", desc := "(I)I" } : MethodName)) ∈ fd_gt := fd_gt_t (List.mem_of_getElem? (i := 676) (by decide +kernel)) (by decide +kernel)
theorem kw_499 : (Cond.code ({ cls := "FrostDebts", name := "ask", desc := "(I)I" } : MethodName) prog_1_method_32_code (7 : Nat) (Option.some ClassFile.FieldType.int)) ∈ fd_gt := fd_gt_t (List.mem_of_getElem? (i := 552) (by decide +kernel)) (by decide +kernel)
theorem kw_500 : (Cond.instanceMethod ({ cls := "FrostDebts", name := "ask", desc := "(I)I" } : MethodName)) ∈ fd_gt := fd_gt_t (List.mem_of_getElem? (i := 550) (by decide +kernel)) (by decide +kernel)
theorem kw_501 : (Cond.selects "FrostDebts" ({ cls := "FrostDebts", name := "ask", desc := "(I)I" } : MethodName) ({ cls := "FrostDebts", name := "ask", desc := "(I)I" } : MethodName)) ∈ fd_gt := fd_gt_t (List.mem_of_getElem? (i := 551) (by decide +kernel)) (by decide +kernel)
theorem kw_502 : (Cond.methodLink "FrostDebts" (389 : Nat) ({ cls := "FrostDebts", name := "ask", desc := "(I)I" } : MethodName)) ∈ fd_gt := fd_gt_t (List.mem_of_getElem? (i := 677) (by decide +kernel)) (by decide +kernel)
theorem kw_503 : (Cond.code ({ cls := "FrostDebtsModel", name := "faultOf", desc := "(I)I" } : MethodName) prog_11_method_19_code (5 : Nat) (Option.some ClassFile.FieldType.int)) ∈ fd_gt := fd_gt_t (List.mem_of_getElem? (i := 806) (by decide +kernel)) (by decide +kernel)
theorem kw_504 : (Cond.instanceMethod ({ cls := "FrostDebtsModel", name := "faultOf", desc := "(I)I" } : MethodName)) ∈ fd_gt := fd_gt_t (List.mem_of_getElem? (i := 805) (by decide +kernel)) (by decide +kernel)
theorem kw_505 : (Cond.selects "FrostDebtsModel" ({ cls := "FrostDebtsModel", name := "faultOf", desc := "(I)I" } : MethodName) ({ cls := "FrostDebtsModel", name := "faultOf", desc := "(I)I" } : MethodName)) ∈ fd_gt := fd_gt_s (List.mem_of_getElem? (i := 16) (by decide +kernel)) (by decide +kernel)
theorem kw_506 : (Cond.methodLink "FrostDebtsModel" (128 : Nat) ({ cls := "FrostDebtsModel", name := "faultOf", desc := "(I)I" } : MethodName)) ∈ fd_gt := fd_gt_t (List.mem_of_getElem? (i := 803) (by decide +kernel)) (by decide +kernel)
theorem kw_507 : (Cond.constantLong "FrostDebts" (274 : Nat) (17 : Int64)) ∈ fd_gt := fd_gt_t (List.mem_of_getElem? (i := 640) (by decide +kernel)) (by decide +kernel)
theorem kw_508 : (Cond.code ({ cls := "FrostDebts", name := "count", desc := "(I)I" } : MethodName) prog_1_method_41_code (2 : Nat) (Option.some ClassFile.FieldType.int)) ∈ fd_gt := fd_gt_t (List.mem_of_getElem? (i := 635) (by decide +kernel)) (by decide +kernel)
theorem kw_509 : (Cond.instanceMethod ({ cls := "FrostDebts", name := "count", desc := "(I)I" } : MethodName)) ∈ fd_gt := fd_gt_t (List.mem_of_getElem? (i := 633) (by decide +kernel)) (by decide +kernel)
theorem kw_510 : (Cond.selects "FrostDebts" ({ cls := "FrostDebts", name := "count", desc := "(I)I" } : MethodName) ({ cls := "FrostDebts", name := "count", desc := "(I)I" } : MethodName)) ∈ fd_gt := fd_gt_t (List.mem_of_getElem? (i := 634) (by decide +kernel)) (by decide +kernel)
theorem kw_511 : (Cond.methodLink "FrostDebts" (276 : Nat) ({ cls := "FrostDebts", name := "count", desc := "(I)I" } : MethodName)) ∈ fd_gt := fd_gt_t (List.mem_of_getElem? (i := 641) (by decide +kernel)) (by decide +kernel)
theorem kw_512 : (Cond.code ({ cls := "FrostDebts", name := "fault", desc := "(I)I" } : MethodName) prog_1_method_5_code (2 : Nat) (Option.some ClassFile.FieldType.int)) ∈ fd_gt := fd_gt_t (List.mem_of_getElem? (i := 361) (by decide +kernel)) (by decide +kernel)
theorem kw_513 : (Cond.instanceMethod ({ cls := "FrostDebts", name := "fault", desc := "(I)I" } : MethodName)) ∈ fd_gt := fd_gt_t (List.mem_of_getElem? (i := 359) (by decide +kernel)) (by decide +kernel)
theorem kw_514 : (Cond.selects "FrostDebts" ({ cls := "FrostDebts", name := "fault", desc := "(I)I" } : MethodName) ({ cls := "FrostDebts", name := "fault", desc := "(I)I" } : MethodName)) ∈ fd_gt := fd_gt_t (List.mem_of_getElem? (i := 360) (by decide +kernel)) (by decide +kernel)
theorem kw_515 : (Cond.methodLink "FrostDebts" (283 : Nat) ({ cls := "FrostDebts", name := "fault", desc := "(I)I" } : MethodName)) ∈ fd_gt := fd_gt_t (List.mem_of_getElem? (i := 646) (by decide +kernel)) (by decide +kernel)
theorem kw_516 : (Cond.code ({ cls := "FrostDebts", name := "mixPlace", desc := "(JI)J" } : MethodName) prog_1_method_70_code (6 : Nat) (Option.some ClassFile.FieldType.long)) ∈ fd_gt := fd_gt_t (List.mem_of_getElem? (i := 650) (by decide +kernel)) (by decide +kernel)
theorem kw_517 : (Cond.instanceMethod ({ cls := "FrostDebts", name := "mixPlace", desc := "(JI)J" } : MethodName)) ∈ fd_gt := fd_gt_t (List.mem_of_getElem? (i := 649) (by decide +kernel)) (by decide +kernel)
theorem kw_518 : (Cond.selects "FrostDebts" ({ cls := "FrostDebts", name := "mixPlace", desc := "(JI)J" } : MethodName) ({ cls := "FrostDebts", name := "mixPlace", desc := "(JI)J" } : MethodName)) ∈ fd_gt := fd_gt_s (List.mem_of_getElem? (i := 12) (by decide +kernel)) (by decide +kernel)
theorem kw_519 : (Cond.methodLink "FrostDebts" (286 : Nat) ({ cls := "FrostDebts", name := "mixPlace", desc := "(JI)J" } : MethodName)) ∈ fd_gt := fd_gt_t (List.mem_of_getElem? (i := 647) (by decide +kernel)) (by decide +kernel)
theorem kw_520 : (Cond.code ({ cls := "FrostDebts", name := "mixDebt", desc := "(JI)J" } : MethodName) prog_1_method_71_code (7 : Nat) (Option.some ClassFile.FieldType.long)) ∈ fd_gt := fd_gt_t (List.mem_of_getElem? (i := 661) (by decide +kernel)) (by decide +kernel)
theorem kw_521 : (Cond.instanceMethod ({ cls := "FrostDebts", name := "mixDebt", desc := "(JI)J" } : MethodName)) ∈ fd_gt := fd_gt_t (List.mem_of_getElem? (i := 660) (by decide +kernel)) (by decide +kernel)
theorem kw_522 : (Cond.selects "FrostDebts" ({ cls := "FrostDebts", name := "mixDebt", desc := "(JI)J" } : MethodName) ({ cls := "FrostDebts", name := "mixDebt", desc := "(JI)J" } : MethodName)) ∈ fd_gt := fd_gt_s (List.mem_of_getElem? (i := 13) (by decide +kernel)) (by decide +kernel)
theorem kw_523 : (Cond.methodLink "FrostDebts" (290 : Nat) ({ cls := "FrostDebts", name := "mixDebt", desc := "(JI)J" } : MethodName)) ∈ fd_gt := fd_gt_t (List.mem_of_getElem? (i := 658) (by decide +kernel)) (by decide +kernel)
theorem kw_524 : (Cond.code ({ cls := "FrostDebts", name := "mixNight", desc := "(JI)J" } : MethodName) prog_1_method_73_code (4 : Nat) (Option.some ClassFile.FieldType.long)) ∈ fd_gt := fd_gt_t (List.mem_of_getElem? (i := 675) (by decide +kernel)) (by decide +kernel)
theorem kw_525 : (Cond.instanceMethod ({ cls := "FrostDebts", name := "mixNight", desc := "(JI)J" } : MethodName)) ∈ fd_gt := fd_gt_t (List.mem_of_getElem? (i := 674) (by decide +kernel)) (by decide +kernel)
theorem kw_526 : (Cond.selects "FrostDebts" ({ cls := "FrostDebts", name := "mixNight", desc := "(JI)J" } : MethodName) ({ cls := "FrostDebts", name := "mixNight", desc := "(JI)J" } : MethodName)) ∈ fd_gt := fd_gt_s (List.mem_of_getElem? (i := 15) (by decide +kernel)) (by decide +kernel)
theorem kw_527 : (Cond.methodLink "FrostDebts" (296 : Nat) ({ cls := "FrostDebts", name := "mixNight", desc := "(JI)J" } : MethodName)) ∈ fd_gt := fd_gt_t (List.mem_of_getElem? (i := 672) (by decide +kernel)) (by decide +kernel)
theorem kw_528 : (Cond.code ({ cls := "FrostDebts", name := "never", desc := "()I" } : MethodName) prog_1_method_20_code (3 : Nat) (Option.some ClassFile.FieldType.int)) ∈ fd_gt := fd_gt_t (List.mem_of_getElem? (i := 477) (by decide +kernel)) (by decide +kernel)
theorem kw_529 : (Cond.instanceMethod ({ cls := "FrostDebts", name := "never", desc := "()I" } : MethodName)) ∈ fd_gt := fd_gt_t (List.mem_of_getElem? (i := 475) (by decide +kernel)) (by decide +kernel)
theorem kw_530 : (Cond.selects "FrostDebts" ({ cls := "FrostDebts", name := "never", desc := "()I" } : MethodName) ({ cls := "FrostDebts", name := "never", desc := "()I" } : MethodName)) ∈ fd_gt := fd_gt_t (List.mem_of_getElem? (i := 476) (by decide +kernel)) (by decide +kernel)
theorem kw_531 : (Cond.methodLink "FrostDebts" (299 : Nat) ({ cls := "FrostDebts", name := "never", desc := "()I" } : MethodName)) ∈ fd_gt := fd_gt_t (List.mem_of_getElem? (i := 678) (by decide +kernel)) (by decide +kernel)
theorem kw_532 : (Cond.code ({ cls := "FrostDebts", name := "carried", desc := "()I" } : MethodName) prog_1_method_31_code (4 : Nat) (Option.some ClassFile.FieldType.int)) ∈ fd_gt := fd_gt_t (List.mem_of_getElem? (i := 544) (by decide +kernel)) (by decide +kernel)
theorem kw_533 : (Cond.instanceMethod ({ cls := "FrostDebts", name := "carried", desc := "()I" } : MethodName)) ∈ fd_gt := fd_gt_t (List.mem_of_getElem? (i := 542) (by decide +kernel)) (by decide +kernel)
theorem kw_534 : (Cond.selects "FrostDebts" ({ cls := "FrostDebts", name := "carried", desc := "()I" } : MethodName) ({ cls := "FrostDebts", name := "carried", desc := "()I" } : MethodName)) ∈ fd_gt := fd_gt_t (List.mem_of_getElem? (i := 543) (by decide +kernel)) (by decide +kernel)
theorem kw_535 : (Cond.methodLink "FrostDebts" (303 : Nat) ({ cls := "FrostDebts", name := "carried", desc := "()I" } : MethodName)) ∈ fd_gt := fd_gt_t (List.mem_of_getElem? (i := 679) (by decide +kernel)) (by decide +kernel)
theorem kw_536 : (Cond.code ({ cls := "FrostDebts", name := "mixPerson", desc := "(JI)J" } : MethodName) prog_1_method_72_code (6 : Nat) (Option.some ClassFile.FieldType.long)) ∈ fd_gt := fd_gt_t (List.mem_of_getElem? (i := 668) (by decide +kernel)) (by decide +kernel)
theorem kw_537 : (Cond.instanceMethod ({ cls := "FrostDebts", name := "mixPerson", desc := "(JI)J" } : MethodName)) ∈ fd_gt := fd_gt_t (List.mem_of_getElem? (i := 667) (by decide +kernel)) (by decide +kernel)
theorem kw_538 : (Cond.selects "FrostDebts" ({ cls := "FrostDebts", name := "mixPerson", desc := "(JI)J" } : MethodName) ({ cls := "FrostDebts", name := "mixPerson", desc := "(JI)J" } : MethodName)) ∈ fd_gt := fd_gt_s (List.mem_of_getElem? (i := 14) (by decide +kernel)) (by decide +kernel)
theorem kw_539 : (Cond.methodLink "FrostDebts" (293 : Nat) ({ cls := "FrostDebts", name := "mixPerson", desc := "(JI)J" } : MethodName)) ∈ fd_gt := fd_gt_t (List.mem_of_getElem? (i := 665) (by decide +kernel)) (by decide +kernel)
theorem kw_540 : (Cond.code ({ cls := "FrostDebtsModel", name := "reads", desc := "()V" } : MethodName) prog_11_method_20_code (2 : Nat) (Option.none : Option ClassFile.FieldType)) ∈ fd_gt := fd_gt_t (List.mem_of_getElem? (i := 842) (by decide +kernel)) (by decide +kernel)
theorem kw_541 : (Cond.instanceMethod ({ cls := "FrostDebtsModel", name := "reads", desc := "()V" } : MethodName)) ∈ fd_gt := fd_gt_t (List.mem_of_getElem? (i := 841) (by decide +kernel)) (by decide +kernel)
theorem kw_542 : (Cond.selects "FrostDebtsModel" ({ cls := "FrostDebtsModel", name := "reads", desc := "()V" } : MethodName) ({ cls := "FrostDebtsModel", name := "reads", desc := "()V" } : MethodName)) ∈ fd_gt := fd_gt_s (List.mem_of_getElem? (i := 24) (by decide +kernel)) (by decide +kernel)
theorem kw_543 : (Cond.methodLink "FrostDebtsModel" (131 : Nat) ({ cls := "FrostDebtsModel", name := "reads", desc := "()V" } : MethodName)) ∈ fd_gt := fd_gt_t (List.mem_of_getElem? (i := 839) (by decide +kernel)) (by decide +kernel)
theorem kw_544 : (Cond.code ({ cls := "FrostDebtsModel", name := "isPlace", desc := "(I)Z" } : MethodName) prog_11_method_22_code (2 : Nat) (Option.some ClassFile.FieldType.boolean)) ∈ fd_gt := fd_gt_t (List.mem_of_getElem? (i := 838) (by decide +kernel)) (by decide +kernel)
theorem kw_545 : (Cond.instanceMethod ({ cls := "FrostDebtsModel", name := "isPlace", desc := "(I)Z" } : MethodName)) ∈ fd_gt := fd_gt_t (List.mem_of_getElem? (i := 837) (by decide +kernel)) (by decide +kernel)
theorem kw_546 : (Cond.selects "FrostDebtsModel" ({ cls := "FrostDebtsModel", name := "isPlace", desc := "(I)Z" } : MethodName) ({ cls := "FrostDebtsModel", name := "isPlace", desc := "(I)Z" } : MethodName)) ∈ fd_gt := fd_gt_s (List.mem_of_getElem? (i := 23) (by decide +kernel)) (by decide +kernel)
theorem kw_547 : (Cond.methodLink "FrostDebtsModel" (134 : Nat) ({ cls := "FrostDebtsModel", name := "isPlace", desc := "(I)Z" } : MethodName)) ∈ fd_gt := fd_gt_t (List.mem_of_getElem? (i := 835) (by decide +kernel)) (by decide +kernel)
theorem kw_548 : (Cond.code ({ cls := "FrostDebtsModel", name := "isNight", desc := "(I)Z" } : MethodName) prog_11_method_23_code (2 : Nat) (Option.some ClassFile.FieldType.boolean)) ∈ fd_gt := fd_gt_t (List.mem_of_getElem? (i := 850) (by decide +kernel)) (by decide +kernel)
theorem kw_549 : (Cond.instanceMethod ({ cls := "FrostDebtsModel", name := "isNight", desc := "(I)Z" } : MethodName)) ∈ fd_gt := fd_gt_t (List.mem_of_getElem? (i := 849) (by decide +kernel)) (by decide +kernel)
theorem kw_550 : (Cond.selects "FrostDebtsModel" ({ cls := "FrostDebtsModel", name := "isNight", desc := "(I)Z" } : MethodName) ({ cls := "FrostDebtsModel", name := "isNight", desc := "(I)Z" } : MethodName)) ∈ fd_gt := fd_gt_s (List.mem_of_getElem? (i := 25) (by decide +kernel)) (by decide +kernel)
theorem kw_551 : (Cond.methodLink "FrostDebtsModel" (137 : Nat) ({ cls := "FrostDebtsModel", name := "isNight", desc := "(I)Z" } : MethodName)) ∈ fd_gt := fd_gt_t (List.mem_of_getElem? (i := 847) (by decide +kernel)) (by decide +kernel)
theorem kw_552 : (Cond.code ({ cls := "FrostDebtsModel", name := "isDebt", desc := "(I)Z" } : MethodName) prog_11_method_24_code (2 : Nat) (Option.some ClassFile.FieldType.boolean)) ∈ fd_gt := fd_gt_t (List.mem_of_getElem? (i := 858) (by decide +kernel)) (by decide +kernel)
theorem kw_553 : (Cond.instanceMethod ({ cls := "FrostDebtsModel", name := "isDebt", desc := "(I)Z" } : MethodName)) ∈ fd_gt := fd_gt_t (List.mem_of_getElem? (i := 857) (by decide +kernel)) (by decide +kernel)
theorem kw_554 : (Cond.selects "FrostDebtsModel" ({ cls := "FrostDebtsModel", name := "isDebt", desc := "(I)Z" } : MethodName) ({ cls := "FrostDebtsModel", name := "isDebt", desc := "(I)Z" } : MethodName)) ∈ fd_gt := fd_gt_s (List.mem_of_getElem? (i := 26) (by decide +kernel)) (by decide +kernel)
theorem kw_555 : (Cond.methodLink "FrostDebtsModel" (140 : Nat) ({ cls := "FrostDebtsModel", name := "isDebt", desc := "(I)Z" } : MethodName)) ∈ fd_gt := fd_gt_t (List.mem_of_getElem? (i := 855) (by decide +kernel)) (by decide +kernel)
theorem kw_556 : (Cond.code ({ cls := "FrostDebtsModel", name := "debtOf", desc := "(II)I" } : MethodName) prog_11_method_27_code (3 : Nat) (Option.some ClassFile.FieldType.int)) ∈ fd_gt := fd_gt_t (List.mem_of_getElem? (i := 862) (by decide +kernel)) (by decide +kernel)
theorem kw_557 : (Cond.instanceMethod ({ cls := "FrostDebtsModel", name := "debtOf", desc := "(II)I" } : MethodName)) ∈ fd_gt := fd_gt_t (List.mem_of_getElem? (i := 861) (by decide +kernel)) (by decide +kernel)
theorem kw_558 : (Cond.selects "FrostDebtsModel" ({ cls := "FrostDebtsModel", name := "debtOf", desc := "(II)I" } : MethodName) ({ cls := "FrostDebtsModel", name := "debtOf", desc := "(II)I" } : MethodName)) ∈ fd_gt := fd_gt_s (List.mem_of_getElem? (i := 27) (by decide +kernel)) (by decide +kernel)
theorem kw_559 : (Cond.methodLink "FrostDebtsModel" (143 : Nat) ({ cls := "FrostDebtsModel", name := "debtOf", desc := "(II)I" } : MethodName)) ∈ fd_gt := fd_gt_t (List.mem_of_getElem? (i := 859) (by decide +kernel)) (by decide +kernel)
theorem kw_560 : (Cond.code ({ cls := "FrostDebtsModel", name := "asTold", desc := "()V" } : MethodName) prog_11_method_35_code (2 : Nat) (Option.none : Option ClassFile.FieldType)) ∈ fd_gt := fd_gt_t (List.mem_of_getElem? (i := 916) (by decide +kernel)) (by decide +kernel)
theorem kw_561 : (Cond.instanceMethod ({ cls := "FrostDebtsModel", name := "asTold", desc := "()V" } : MethodName)) ∈ fd_gt := fd_gt_t (List.mem_of_getElem? (i := 915) (by decide +kernel)) (by decide +kernel)
theorem kw_562 : (Cond.selects "FrostDebtsModel" ({ cls := "FrostDebtsModel", name := "asTold", desc := "()V" } : MethodName) ({ cls := "FrostDebtsModel", name := "asTold", desc := "()V" } : MethodName)) ∈ fd_gt := fd_gt_s (List.mem_of_getElem? (i := 32) (by decide +kernel)) (by decide +kernel)
theorem kw_563 : (Cond.methodLink "FrostDebtsModel" (168 : Nat) ({ cls := "FrostDebtsModel", name := "asTold", desc := "()V" } : MethodName)) ∈ fd_gt := fd_gt_t (List.mem_of_getElem? (i := 913) (by decide +kernel)) (by decide +kernel)
theorem kw_564 : (Cond.code ({ cls := "FrostDebtsModel", name := "warmthOf", desc := "(II)I" } : MethodName) prog_11_method_41_code (3 : Nat) (Option.some ClassFile.FieldType.int)) ∈ fd_gt := fd_gt_t (List.mem_of_getElem? (i := 900) (by decide +kernel)) (by decide +kernel)
theorem kw_565 : (Cond.instanceMethod ({ cls := "FrostDebtsModel", name := "warmthOf", desc := "(II)I" } : MethodName)) ∈ fd_gt := fd_gt_t (List.mem_of_getElem? (i := 899) (by decide +kernel)) (by decide +kernel)
theorem kw_566 : (Cond.selects "FrostDebtsModel" ({ cls := "FrostDebtsModel", name := "warmthOf", desc := "(II)I" } : MethodName) ({ cls := "FrostDebtsModel", name := "warmthOf", desc := "(II)I" } : MethodName)) ∈ fd_gt := fd_gt_s (List.mem_of_getElem? (i := 29) (by decide +kernel)) (by decide +kernel)
theorem kw_567 : (Cond.methodLink "FrostDebtsModel" (174 : Nat) ({ cls := "FrostDebtsModel", name := "warmthOf", desc := "(II)I" } : MethodName)) ∈ fd_gt := fd_gt_t (List.mem_of_getElem? (i := 897) (by decide +kernel)) (by decide +kernel)
theorem kw_568 : (Cond.code ({ cls := "FrostDebtsModel", name := "carries", desc := "(IIIII)Z" } : MethodName) prog_11_method_69_code (8 : Nat) (Option.some ClassFile.FieldType.boolean)) ∈ fd_gt := fd_gt_t (List.mem_of_getElem? (i := 1044) (by decide +kernel)) (by decide +kernel)
theorem kw_569 : (Cond.instanceMethod ({ cls := "FrostDebtsModel", name := "carries", desc := "(IIIII)Z" } : MethodName)) ∈ fd_gt := fd_gt_t (List.mem_of_getElem? (i := 1043) (by decide +kernel)) (by decide +kernel)
theorem kw_570 : (Cond.selects "FrostDebtsModel" ({ cls := "FrostDebtsModel", name := "carries", desc := "(IIIII)Z" } : MethodName) ({ cls := "FrostDebtsModel", name := "carries", desc := "(IIIII)Z" } : MethodName)) ∈ fd_gt := fd_gt_s (List.mem_of_getElem? (i := 53) (by decide +kernel)) (by decide +kernel)
theorem kw_571 : (Cond.methodLink "FrostDebtsModel" (225 : Nat) ({ cls := "FrostDebtsModel", name := "carries", desc := "(IIIII)Z" } : MethodName)) ∈ fd_gt := fd_gt_t (List.mem_of_getElem? (i := 1041) (by decide +kernel)) (by decide +kernel)
theorem kw_572 : (Cond.code ({ cls := "FrostDebtsModel", name := "isSeen", desc := "()Z" } : MethodName) prog_11_method_76_code (3 : Nat) (Option.some ClassFile.FieldType.boolean)) ∈ fd_gt := fd_gt_t (List.mem_of_getElem? (i := 1076) (by decide +kernel)) (by decide +kernel)
theorem kw_573 : (Cond.instanceMethod ({ cls := "FrostDebtsModel", name := "isSeen", desc := "()Z" } : MethodName)) ∈ fd_gt := fd_gt_t (List.mem_of_getElem? (i := 1075) (by decide +kernel)) (by decide +kernel)
theorem kw_574 : (Cond.selects "FrostDebtsModel" ({ cls := "FrostDebtsModel", name := "isSeen", desc := "()Z" } : MethodName) ({ cls := "FrostDebtsModel", name := "isSeen", desc := "()Z" } : MethodName)) ∈ fd_gt := fd_gt_s (List.mem_of_getElem? (i := 56) (by decide +kernel)) (by decide +kernel)
theorem kw_575 : (Cond.methodLink "FrostDebtsModel" (247 : Nat) ({ cls := "FrostDebtsModel", name := "isSeen", desc := "()Z" } : MethodName)) ∈ fd_gt := fd_gt_t (List.mem_of_getElem? (i := 1073) (by decide +kernel)) (by decide +kernel)
theorem kw_576 : (Cond.constantLong "FrostDebtsModel" (263 : Nat) (16 : Int64)) ∈ fd_gt := fd_gt_t (List.mem_of_getElem? (i := 1104) (by decide +kernel)) (by decide +kernel)
theorem kw_577 : (Cond.code ({ cls := "FrostDebtsModel", name := "lowest", desc := "(JJI)J" } : MethodName) prog_11_method_6_code (11 : Nat) (Option.some ClassFile.FieldType.long)) ∈ fd_gt := fd_gt_t (List.mem_of_getElem? (i := 1107) (by decide +kernel)) (by decide +kernel)
theorem kw_578 : (Cond.static ({ cls := "FrostDebtsModel", name := "lowest", desc := "(JJI)J" } : MethodName)) ∈ fd_gt := fd_gt_t (List.mem_of_getElem? (i := 1106) (by decide +kernel)) (by decide +kernel)
theorem kw_579 : (Cond.methodLink "FrostDebtsModel" (265 : Nat) ({ cls := "FrostDebtsModel", name := "lowest", desc := "(JJI)J" } : MethodName)) ∈ fd_gt := fd_gt_t (List.mem_of_getElem? (i := 1105) (by decide +kernel)) (by decide +kernel)
theorem kw_580 : (Cond.constant "FrostDebtsModel" (277 : Nat) (1103515245 : Int32)) ∈ fd_gt := fd_gt_t (List.mem_of_getElem? (i := 1120) (by decide +kernel)) (by decide +kernel)
theorem kw_581 : (Cond.code ({ cls := "FrostDebtsModel", name := "partsMany", desc := "(I)I" } : MethodName) prog_11_method_98_code (2 : Nat) (Option.some ClassFile.FieldType.int)) ∈ fd_gt := fd_gt_t (List.mem_of_getElem? (i := 1165) (by decide +kernel)) (by decide +kernel)
theorem kw_582 : (Cond.instanceMethod ({ cls := "FrostDebtsModel", name := "partsMany", desc := "(I)I" } : MethodName)) ∈ fd_gt := fd_gt_t (List.mem_of_getElem? (i := 1164) (by decide +kernel)) (by decide +kernel)
theorem kw_583 : (Cond.selects "FrostDebtsModel" ({ cls := "FrostDebtsModel", name := "partsMany", desc := "(I)I" } : MethodName) ({ cls := "FrostDebtsModel", name := "partsMany", desc := "(I)I" } : MethodName)) ∈ fd_gt := fd_gt_s (List.mem_of_getElem? (i := 64) (by decide +kernel)) (by decide +kernel)
theorem kw_584 : (Cond.methodLink "FrostDebtsModel" (295 : Nat) ({ cls := "FrostDebtsModel", name := "partsMany", desc := "(I)I" } : MethodName)) ∈ fd_gt := fd_gt_t (List.mem_of_getElem? (i := 1162) (by decide +kernel)) (by decide +kernel)
theorem kw_585 : (Cond.code ({ cls := "FrostDebtsModel", name := "freezesOf", desc := "(II)I" } : MethodName) prog_11_method_43_code (3 : Nat) (Option.some ClassFile.FieldType.int)) ∈ fd_gt := fd_gt_t (List.mem_of_getElem? (i := 912) (by decide +kernel)) (by decide +kernel)
theorem kw_586 : (Cond.instanceMethod ({ cls := "FrostDebtsModel", name := "freezesOf", desc := "(II)I" } : MethodName)) ∈ fd_gt := fd_gt_t (List.mem_of_getElem? (i := 911) (by decide +kernel)) (by decide +kernel)
theorem kw_587 : (Cond.selects "FrostDebtsModel" ({ cls := "FrostDebtsModel", name := "freezesOf", desc := "(II)I" } : MethodName) ({ cls := "FrostDebtsModel", name := "freezesOf", desc := "(II)I" } : MethodName)) ∈ fd_gt := fd_gt_s (List.mem_of_getElem? (i := 31) (by decide +kernel)) (by decide +kernel)
theorem kw_588 : (Cond.methodLink "FrostDebtsModel" (177 : Nat) ({ cls := "FrostDebtsModel", name := "freezesOf", desc := "(II)I" } : MethodName)) ∈ fd_gt := fd_gt_t (List.mem_of_getElem? (i := 909) (by decide +kernel)) (by decide +kernel)
theorem kw_589 : (Cond.code ({ cls := "FrostDebtsModel", name := "laysTold", desc := "()V" } : MethodName) prog_11_method_40_code (1 : Nat) (Option.none : Option ClassFile.FieldType)) ∈ fd_gt := fd_gt_t (List.mem_of_getElem? (i := 936) (by decide +kernel)) (by decide +kernel)
theorem kw_590 : (Cond.instanceMethod ({ cls := "FrostDebtsModel", name := "laysTold", desc := "()V" } : MethodName)) ∈ fd_gt := fd_gt_t (List.mem_of_getElem? (i := 935) (by decide +kernel)) (by decide +kernel)
theorem kw_591 : (Cond.selects "FrostDebtsModel" ({ cls := "FrostDebtsModel", name := "laysTold", desc := "()V" } : MethodName) ({ cls := "FrostDebtsModel", name := "laysTold", desc := "()V" } : MethodName)) ∈ fd_gt := fd_gt_s (List.mem_of_getElem? (i := 36) (by decide +kernel)) (by decide +kernel)
theorem kw_592 : (Cond.methodLink "FrostDebtsModel" (180 : Nat) ({ cls := "FrostDebtsModel", name := "laysTold", desc := "()V" } : MethodName)) ∈ fd_gt := fd_gt_t (List.mem_of_getElem? (i := 933) (by decide +kernel)) (by decide +kernel)
theorem kw_593 : (Cond.code ({ cls := "FrostDebtsModel", name := "standsFor", desc := "(II)I" } : MethodName) prog_11_method_53_code (5 : Nat) (Option.some ClassFile.FieldType.int)) ∈ fd_gt := fd_gt_t (List.mem_of_getElem? (i := 976) (by decide +kernel)) (by decide +kernel)
theorem kw_594 : (Cond.instanceMethod ({ cls := "FrostDebtsModel", name := "standsFor", desc := "(II)I" } : MethodName)) ∈ fd_gt := fd_gt_t (List.mem_of_getElem? (i := 975) (by decide +kernel)) (by decide +kernel)
theorem kw_595 : (Cond.selects "FrostDebtsModel" ({ cls := "FrostDebtsModel", name := "standsFor", desc := "(II)I" } : MethodName) ({ cls := "FrostDebtsModel", name := "standsFor", desc := "(II)I" } : MethodName)) ∈ fd_gt := fd_gt_s (List.mem_of_getElem? (i := 43) (by decide +kernel)) (by decide +kernel)
theorem kw_596 : (Cond.methodLink "FrostDebtsModel" (198 : Nat) ({ cls := "FrostDebtsModel", name := "standsFor", desc := "(II)I" } : MethodName)) ∈ fd_gt := fd_gt_t (List.mem_of_getElem? (i := 973) (by decide +kernel)) (by decide +kernel)
theorem kw_597 : (Cond.code ({ cls := "FrostDebtsModel", name := "keepOf", desc := "(III)I" } : MethodName) prog_11_method_67_code (8 : Nat) (Option.some ClassFile.FieldType.int)) ∈ fd_gt := fd_gt_t (List.mem_of_getElem? (i := 1028) (by decide +kernel)) (by decide +kernel)
theorem kw_598 : (Cond.instanceMethod ({ cls := "FrostDebtsModel", name := "keepOf", desc := "(III)I" } : MethodName)) ∈ fd_gt := fd_gt_t (List.mem_of_getElem? (i := 1027) (by decide +kernel)) (by decide +kernel)
theorem kw_599 : (Cond.selects "FrostDebtsModel" ({ cls := "FrostDebtsModel", name := "keepOf", desc := "(III)I" } : MethodName) ({ cls := "FrostDebtsModel", name := "keepOf", desc := "(III)I" } : MethodName)) ∈ fd_gt := fd_gt_s (List.mem_of_getElem? (i := 50) (by decide +kernel)) (by decide +kernel)
theorem kw_600 : (Cond.methodLink "FrostDebtsModel" (222 : Nat) ({ cls := "FrostDebtsModel", name := "keepOf", desc := "(III)I" } : MethodName)) ∈ fd_gt := fd_gt_t (List.mem_of_getElem? (i := 1025) (by decide +kernel)) (by decide +kernel)
theorem kw_601 : (Cond.code ({ cls := "FrostDebtsModel", name := "carryBy", desc := "(II)I" } : MethodName) prog_11_method_70_code (6 : Nat) (Option.some ClassFile.FieldType.int)) ∈ fd_gt := fd_gt_t (List.mem_of_getElem? (i := 1040) (by decide +kernel)) (by decide +kernel)
theorem kw_602 : (Cond.instanceMethod ({ cls := "FrostDebtsModel", name := "carryBy", desc := "(II)I" } : MethodName)) ∈ fd_gt := fd_gt_t (List.mem_of_getElem? (i := 1039) (by decide +kernel)) (by decide +kernel)
theorem kw_603 : (Cond.selects "FrostDebtsModel" ({ cls := "FrostDebtsModel", name := "carryBy", desc := "(II)I" } : MethodName) ({ cls := "FrostDebtsModel", name := "carryBy", desc := "(II)I" } : MethodName)) ∈ fd_gt := fd_gt_s (List.mem_of_getElem? (i := 52) (by decide +kernel)) (by decide +kernel)
theorem kw_604 : (Cond.methodLink "FrostDebtsModel" (229 : Nat) ({ cls := "FrostDebtsModel", name := "carryBy", desc := "(II)I" } : MethodName)) ∈ fd_gt := fd_gt_t (List.mem_of_getElem? (i := 1037) (by decide +kernel)) (by decide +kernel)
theorem kw_605 : (Cond.code ({ cls := "FrostDebtsModel", name := "wasOf", desc := "(I)I" } : MethodName) prog_11_method_77_code (5 : Nat) (Option.some ClassFile.FieldType.int)) ∈ fd_gt := fd_gt_t (List.mem_of_getElem? (i := 1072) (by decide +kernel)) (by decide +kernel)
theorem kw_606 : (Cond.instanceMethod ({ cls := "FrostDebtsModel", name := "wasOf", desc := "(I)I" } : MethodName)) ∈ fd_gt := fd_gt_t (List.mem_of_getElem? (i := 1071) (by decide +kernel)) (by decide +kernel)
theorem kw_607 : (Cond.selects "FrostDebtsModel" ({ cls := "FrostDebtsModel", name := "wasOf", desc := "(I)I" } : MethodName) ({ cls := "FrostDebtsModel", name := "wasOf", desc := "(I)I" } : MethodName)) ∈ fd_gt := fd_gt_s (List.mem_of_getElem? (i := 55) (by decide +kernel)) (by decide +kernel)
theorem kw_608 : (Cond.methodLink "FrostDebtsModel" (251 : Nat) ({ cls := "FrostDebtsModel", name := "wasOf", desc := "(I)I" } : MethodName)) ∈ fd_gt := fd_gt_t (List.mem_of_getElem? (i := 1069) (by decide +kernel)) (by decide +kernel)
theorem kw_609 : (Cond.code ({ cls := "FrostDebtsModel", name := "carriedNow", desc := "()I" } : MethodName) prog_11_method_79_code (3 : Nat) (Option.some ClassFile.FieldType.int)) ∈ fd_gt := fd_gt_t (List.mem_of_getElem? (i := 1084) (by decide +kernel)) (by decide +kernel)
theorem kw_610 : (Cond.instanceMethod ({ cls := "FrostDebtsModel", name := "carriedNow", desc := "()I" } : MethodName)) ∈ fd_gt := fd_gt_t (List.mem_of_getElem? (i := 1083) (by decide +kernel)) (by decide +kernel)
theorem kw_611 : (Cond.selects "FrostDebtsModel" ({ cls := "FrostDebtsModel", name := "carriedNow", desc := "()I" } : MethodName) ({ cls := "FrostDebtsModel", name := "carriedNow", desc := "()I" } : MethodName)) ∈ fd_gt := fd_gt_s (List.mem_of_getElem? (i := 57) (by decide +kernel)) (by decide +kernel)
theorem kw_612 : (Cond.methodLink "FrostDebtsModel" (254 : Nat) ({ cls := "FrostDebtsModel", name := "carriedNow", desc := "()I" } : MethodName)) ∈ fd_gt := fd_gt_t (List.mem_of_getElem? (i := 1081) (by decide +kernel)) (by decide +kernel)
theorem kw_613 : (Cond.code ({ cls := "FrostDebtsModel", name := "isIn", desc := "(II)Z" } : MethodName) prog_11_method_4_code (2 : Nat) (Option.some ClassFile.FieldType.boolean)) ∈ fd_gt := fd_gt_t (List.mem_of_getElem? (i := 1095) (by decide +kernel)) (by decide +kernel)
theorem kw_614 : (Cond.static ({ cls := "FrostDebtsModel", name := "isIn", desc := "(II)Z" } : MethodName)) ∈ fd_gt := fd_gt_t (List.mem_of_getElem? (i := 1094) (by decide +kernel)) (by decide +kernel)
theorem kw_615 : (Cond.methodLink "FrostDebtsModel" (257 : Nat) ({ cls := "FrostDebtsModel", name := "isIn", desc := "(II)Z" } : MethodName)) ∈ fd_gt := fd_gt_t (List.mem_of_getElem? (i := 1093) (by decide +kernel)) (by decide +kernel)
theorem kw_616 : (Cond.code ({ cls := "FrostDebtsModel", name := "chanceOf", desc := "(IIII)J" } : MethodName) prog_11_method_83_code (10 : Nat) (Option.some ClassFile.FieldType.long)) ∈ fd_gt := fd_gt_t (List.mem_of_getElem? (i := 1103) (by decide +kernel)) (by decide +kernel)
theorem kw_617 : (Cond.instanceMethod ({ cls := "FrostDebtsModel", name := "chanceOf", desc := "(IIII)J" } : MethodName)) ∈ fd_gt := fd_gt_t (List.mem_of_getElem? (i := 1102) (by decide +kernel)) (by decide +kernel)
theorem kw_618 : (Cond.selects "FrostDebtsModel" ({ cls := "FrostDebtsModel", name := "chanceOf", desc := "(IIII)J" } : MethodName) ({ cls := "FrostDebtsModel", name := "chanceOf", desc := "(IIII)J" } : MethodName)) ∈ fd_gt := fd_gt_s (List.mem_of_getElem? (i := 59) (by decide +kernel)) (by decide +kernel)
theorem kw_619 : (Cond.methodLink "FrostDebtsModel" (269 : Nat) ({ cls := "FrostDebtsModel", name := "chanceOf", desc := "(IIII)J" } : MethodName)) ∈ fd_gt := fd_gt_t (List.mem_of_getElem? (i := 1100) (by decide +kernel)) (by decide +kernel)
theorem kw_620 : (Cond.code ({ cls := "FrostDebtsModel", name := "no", desc := "(I)J" } : MethodName) prog_11_method_5_code (1 : Nat) (Option.some ClassFile.FieldType.long)) ∈ fd_gt := fd_gt_t (List.mem_of_getElem? (i := 1110) (by decide +kernel)) (by decide +kernel)
theorem kw_621 : (Cond.static ({ cls := "FrostDebtsModel", name := "no", desc := "(I)J" } : MethodName)) ∈ fd_gt := fd_gt_t (List.mem_of_getElem? (i := 1109) (by decide +kernel)) (by decide +kernel)
theorem kw_622 : (Cond.methodLink "FrostDebtsModel" (273 : Nat) ({ cls := "FrostDebtsModel", name := "no", desc := "(I)J" } : MethodName)) ∈ fd_gt := fd_gt_t (List.mem_of_getElem? (i := 1108) (by decide +kernel)) (by decide +kernel)
theorem kw_623 : (Cond.code ({ cls := "FrostDebtsModel", name := "yearOf", desc := "(II)I" } : MethodName) prog_11_method_85_code (6 : Nat) (Option.some ClassFile.FieldType.int)) ∈ fd_gt := fd_gt_t (List.mem_of_getElem? (i := 1119) (by decide +kernel)) (by decide +kernel)
theorem kw_624 : (Cond.instanceMethod ({ cls := "FrostDebtsModel", name := "yearOf", desc := "(II)I" } : MethodName)) ∈ fd_gt := fd_gt_t (List.mem_of_getElem? (i := 1118) (by decide +kernel)) (by decide +kernel)
theorem kw_625 : (Cond.selects "FrostDebtsModel" ({ cls := "FrostDebtsModel", name := "yearOf", desc := "(II)I" } : MethodName) ({ cls := "FrostDebtsModel", name := "yearOf", desc := "(II)I" } : MethodName)) ∈ fd_gt := fd_gt_s (List.mem_of_getElem? (i := 60) (by decide +kernel)) (by decide +kernel)
theorem kw_626 : (Cond.methodLink "FrostDebtsModel" (278 : Nat) ({ cls := "FrostDebtsModel", name := "yearOf", desc := "(II)I" } : MethodName)) ∈ fd_gt := fd_gt_t (List.mem_of_getElem? (i := 1116) (by decide +kernel)) (by decide +kernel)
theorem kw_627 : (Cond.code ({ cls := "FrostDebtsModel", name := "firstOf", desc := "(I)I" } : MethodName) prog_11_method_45_code (2 : Nat) (Option.some ClassFile.FieldType.int)) ∈ fd_gt := fd_gt_t (List.mem_of_getElem? (i := 932) (by decide +kernel)) (by decide +kernel)
theorem kw_628 : (Cond.instanceMethod ({ cls := "FrostDebtsModel", name := "firstOf", desc := "(I)I" } : MethodName)) ∈ fd_gt := fd_gt_t (List.mem_of_getElem? (i := 931) (by decide +kernel)) (by decide +kernel)
theorem kw_629 : (Cond.selects "FrostDebtsModel" ({ cls := "FrostDebtsModel", name := "firstOf", desc := "(I)I" } : MethodName) ({ cls := "FrostDebtsModel", name := "firstOf", desc := "(I)I" } : MethodName)) ∈ fd_gt := fd_gt_s (List.mem_of_getElem? (i := 35) (by decide +kernel)) (by decide +kernel)
theorem kw_630 : (Cond.methodLink "FrostDebtsModel" (183 : Nat) ({ cls := "FrostDebtsModel", name := "firstOf", desc := "(I)I" } : MethodName)) ∈ fd_gt := fd_gt_t (List.mem_of_getElem? (i := 929) (by decide +kernel)) (by decide +kernel)
theorem kw_631 : (Cond.code ({ cls := "FrostDebtsModel", name := "hadOf", desc := "(I)I" } : MethodName) prog_11_method_48_code (4 : Nat) (Option.some ClassFile.FieldType.int)) ∈ fd_gt := fd_gt_t (List.mem_of_getElem? (i := 948) (by decide +kernel)) (by decide +kernel)
theorem kw_632 : (Cond.instanceMethod ({ cls := "FrostDebtsModel", name := "hadOf", desc := "(I)I" } : MethodName)) ∈ fd_gt := fd_gt_t (List.mem_of_getElem? (i := 947) (by decide +kernel)) (by decide +kernel)
theorem kw_633 : (Cond.selects "FrostDebtsModel" ({ cls := "FrostDebtsModel", name := "hadOf", desc := "(I)I" } : MethodName) ({ cls := "FrostDebtsModel", name := "hadOf", desc := "(I)I" } : MethodName)) ∈ fd_gt := fd_gt_s (List.mem_of_getElem? (i := 38) (by decide +kernel)) (by decide +kernel)
theorem kw_634 : (Cond.methodLink "FrostDebtsModel" (189 : Nat) ({ cls := "FrostDebtsModel", name := "hadOf", desc := "(I)I" } : MethodName)) ∈ fd_gt := fd_gt_t (List.mem_of_getElem? (i := 945) (by decide +kernel)) (by decide +kernel)
theorem kw_635 : (Cond.code ({ cls := "FrostDebtsModel", name := "standsOf", desc := "(II)I" } : MethodName) prog_11_method_51_code (3 : Nat) (Option.some ClassFile.FieldType.int)) ∈ fd_gt := fd_gt_t (List.mem_of_getElem? (i := 960) (by decide +kernel)) (by decide +kernel)
theorem kw_636 : (Cond.instanceMethod ({ cls := "FrostDebtsModel", name := "standsOf", desc := "(II)I" } : MethodName)) ∈ fd_gt := fd_gt_t (List.mem_of_getElem? (i := 959) (by decide +kernel)) (by decide +kernel)
theorem kw_637 : (Cond.selects "FrostDebtsModel" ({ cls := "FrostDebtsModel", name := "standsOf", desc := "(II)I" } : MethodName) ({ cls := "FrostDebtsModel", name := "standsOf", desc := "(II)I" } : MethodName)) ∈ fd_gt := fd_gt_s (List.mem_of_getElem? (i := 40) (by decide +kernel)) (by decide +kernel)
theorem kw_638 : (Cond.methodLink "FrostDebtsModel" (195 : Nat) ({ cls := "FrostDebtsModel", name := "standsOf", desc := "(II)I" } : MethodName)) ∈ fd_gt := fd_gt_t (List.mem_of_getElem? (i := 957) (by decide +kernel)) (by decide +kernel)
theorem kw_639 : (Cond.code ({ cls := "FrostDebtsModel", name := "lastsOf", desc := "(II)I" } : MethodName) prog_11_method_54_code (5 : Nat) (Option.some ClassFile.FieldType.int)) ∈ fd_gt := fd_gt_t (List.mem_of_getElem? (i := 972) (by decide +kernel)) (by decide +kernel)
theorem kw_640 : (Cond.instanceMethod ({ cls := "FrostDebtsModel", name := "lastsOf", desc := "(II)I" } : MethodName)) ∈ fd_gt := fd_gt_t (List.mem_of_getElem? (i := 971) (by decide +kernel)) (by decide +kernel)
theorem kw_641 : (Cond.selects "FrostDebtsModel" ({ cls := "FrostDebtsModel", name := "lastsOf", desc := "(II)I" } : MethodName) ({ cls := "FrostDebtsModel", name := "lastsOf", desc := "(II)I" } : MethodName)) ∈ fd_gt := fd_gt_s (List.mem_of_getElem? (i := 42) (by decide +kernel)) (by decide +kernel)
theorem kw_642 : (Cond.methodLink "FrostDebtsModel" (201 : Nat) ({ cls := "FrostDebtsModel", name := "lastsOf", desc := "(II)I" } : MethodName)) ∈ fd_gt := fd_gt_t (List.mem_of_getElem? (i := 969) (by decide +kernel)) (by decide +kernel)
theorem kw_643 : (Cond.code ({ cls := "FrostDebtsModel", name := "neverNow", desc := "()I" } : MethodName) prog_11_method_56_code (3 : Nat) (Option.some ClassFile.FieldType.int)) ∈ fd_gt := fd_gt_t (List.mem_of_getElem? (i := 984) (by decide +kernel)) (by decide +kernel)
theorem kw_644 : (Cond.instanceMethod ({ cls := "FrostDebtsModel", name := "neverNow", desc := "()I" } : MethodName)) ∈ fd_gt := fd_gt_t (List.mem_of_getElem? (i := 983) (by decide +kernel)) (by decide +kernel)
theorem kw_645 : (Cond.selects "FrostDebtsModel" ({ cls := "FrostDebtsModel", name := "neverNow", desc := "()I" } : MethodName) ({ cls := "FrostDebtsModel", name := "neverNow", desc := "()I" } : MethodName)) ∈ fd_gt := fd_gt_s (List.mem_of_getElem? (i := 44) (by decide +kernel)) (by decide +kernel)
theorem kw_646 : (Cond.methodLink "FrostDebtsModel" (204 : Nat) ({ cls := "FrostDebtsModel", name := "neverNow", desc := "()I" } : MethodName)) ∈ fd_gt := fd_gt_t (List.mem_of_getElem? (i := 981) (by decide +kernel)) (by decide +kernel)
theorem kw_647 : (Cond.code ({ cls := "FrostDebtsModel", name := "owesOf", desc := "(III)I" } : MethodName) prog_11_method_59_code (4 : Nat) (Option.some ClassFile.FieldType.int)) ∈ fd_gt := fd_gt_t (List.mem_of_getElem? (i := 992) (by decide +kernel)) (by decide +kernel)
theorem kw_648 : (Cond.instanceMethod ({ cls := "FrostDebtsModel", name := "owesOf", desc := "(III)I" } : MethodName)) ∈ fd_gt := fd_gt_t (List.mem_of_getElem? (i := 991) (by decide +kernel)) (by decide +kernel)
theorem kw_649 : (Cond.selects "FrostDebtsModel" ({ cls := "FrostDebtsModel", name := "owesOf", desc := "(III)I" } : MethodName) ({ cls := "FrostDebtsModel", name := "owesOf", desc := "(III)I" } : MethodName)) ∈ fd_gt := fd_gt_s (List.mem_of_getElem? (i := 45) (by decide +kernel)) (by decide +kernel)
theorem kw_650 : (Cond.methodLink "FrostDebtsModel" (210 : Nat) ({ cls := "FrostDebtsModel", name := "owesOf", desc := "(III)I" } : MethodName)) ∈ fd_gt := fd_gt_t (List.mem_of_getElem? (i := 989) (by decide +kernel)) (by decide +kernel)
theorem kw_651 : (Cond.code ({ cls := "FrostDebtsModel", name := "hangsOf", desc := "(I)I" } : MethodName) prog_11_method_61_code (4 : Nat) (Option.some ClassFile.FieldType.int)) ∈ fd_gt := fd_gt_t (List.mem_of_getElem? (i := 1004) (by decide +kernel)) (by decide +kernel)
theorem kw_652 : (Cond.instanceMethod ({ cls := "FrostDebtsModel", name := "hangsOf", desc := "(I)I" } : MethodName)) ∈ fd_gt := fd_gt_t (List.mem_of_getElem? (i := 1003) (by decide +kernel)) (by decide +kernel)
theorem kw_653 : (Cond.selects "FrostDebtsModel" ({ cls := "FrostDebtsModel", name := "hangsOf", desc := "(I)I" } : MethodName) ({ cls := "FrostDebtsModel", name := "hangsOf", desc := "(I)I" } : MethodName)) ∈ fd_gt := fd_gt_s (List.mem_of_getElem? (i := 47) (by decide +kernel)) (by decide +kernel)
theorem kw_654 : (Cond.methodLink "FrostDebtsModel" (213 : Nat) ({ cls := "FrostDebtsModel", name := "hangsOf", desc := "(I)I" } : MethodName)) ∈ fd_gt := fd_gt_t (List.mem_of_getElem? (i := 1001) (by decide +kernel)) (by decide +kernel)
theorem kw_655 : (Cond.code ({ cls := "FrostDebtsModel", name := "freeOf", desc := "(II)I" } : MethodName) prog_11_method_63_code (6 : Nat) (Option.some ClassFile.FieldType.int)) ∈ fd_gt := fd_gt_t (List.mem_of_getElem? (i := 1012) (by decide +kernel)) (by decide +kernel)
theorem kw_656 : (Cond.instanceMethod ({ cls := "FrostDebtsModel", name := "freeOf", desc := "(II)I" } : MethodName)) ∈ fd_gt := fd_gt_t (List.mem_of_getElem? (i := 1011) (by decide +kernel)) (by decide +kernel)
theorem kw_657 : (Cond.selects "FrostDebtsModel" ({ cls := "FrostDebtsModel", name := "freeOf", desc := "(II)I" } : MethodName) ({ cls := "FrostDebtsModel", name := "freeOf", desc := "(II)I" } : MethodName)) ∈ fd_gt := fd_gt_s (List.mem_of_getElem? (i := 48) (by decide +kernel)) (by decide +kernel)
theorem kw_658 : (Cond.methodLink "FrostDebtsModel" (216 : Nat) ({ cls := "FrostDebtsModel", name := "freeOf", desc := "(II)I" } : MethodName)) ∈ fd_gt := fd_gt_t (List.mem_of_getElem? (i := 1009) (by decide +kernel)) (by decide +kernel)
theorem kw_659 : (Cond.code ({ cls := "FrostDebtsModel", name := "whereOf", desc := "(III)I" } : MethodName) prog_11_method_65_code (9 : Nat) (Option.some ClassFile.FieldType.int)) ∈ fd_gt := fd_gt_t (List.mem_of_getElem? (i := 1020) (by decide +kernel)) (by decide +kernel)
theorem kw_660 : (Cond.instanceMethod ({ cls := "FrostDebtsModel", name := "whereOf", desc := "(III)I" } : MethodName)) ∈ fd_gt := fd_gt_t (List.mem_of_getElem? (i := 1019) (by decide +kernel)) (by decide +kernel)
theorem kw_661 : (Cond.selects "FrostDebtsModel" ({ cls := "FrostDebtsModel", name := "whereOf", desc := "(III)I" } : MethodName) ({ cls := "FrostDebtsModel", name := "whereOf", desc := "(III)I" } : MethodName)) ∈ fd_gt := fd_gt_s (List.mem_of_getElem? (i := 49) (by decide +kernel)) (by decide +kernel)
theorem kw_662 : (Cond.methodLink "FrostDebtsModel" (219 : Nat) ({ cls := "FrostDebtsModel", name := "whereOf", desc := "(III)I" } : MethodName)) ∈ fd_gt := fd_gt_t (List.mem_of_getElem? (i := 1017) (by decide +kernel)) (by decide +kernel)
theorem kw_663 : (Cond.code ({ cls := "FrostDebtsModel", name := "carryOf", desc := "(III)I" } : MethodName) prog_11_method_71_code (5 : Nat) (Option.some ClassFile.FieldType.int)) ∈ fd_gt := fd_gt_t (List.mem_of_getElem? (i := 1036) (by decide +kernel)) (by decide +kernel)
theorem kw_664 : (Cond.instanceMethod ({ cls := "FrostDebtsModel", name := "carryOf", desc := "(III)I" } : MethodName)) ∈ fd_gt := fd_gt_t (List.mem_of_getElem? (i := 1035) (by decide +kernel)) (by decide +kernel)
theorem kw_665 : (Cond.selects "FrostDebtsModel" ({ cls := "FrostDebtsModel", name := "carryOf", desc := "(III)I" } : MethodName) ({ cls := "FrostDebtsModel", name := "carryOf", desc := "(III)I" } : MethodName)) ∈ fd_gt := fd_gt_s (List.mem_of_getElem? (i := 51) (by decide +kernel)) (by decide +kernel)
theorem kw_666 : (Cond.methodLink "FrostDebtsModel" (232 : Nat) ({ cls := "FrostDebtsModel", name := "carryOf", desc := "(III)I" } : MethodName)) ∈ fd_gt := fd_gt_t (List.mem_of_getElem? (i := 1033) (by decide +kernel)) (by decide +kernel)
theorem kw_667 : (Cond.code ({ cls := "FrostDebtsModel", name := "askOf", desc := "(I)I" } : MethodName) prog_11_method_81_code (11 : Nat) (Option.some ClassFile.FieldType.int)) ∈ fd_gt := fd_gt_t (List.mem_of_getElem? (i := 1092) (by decide +kernel)) (by decide +kernel)
theorem kw_668 : (Cond.instanceMethod ({ cls := "FrostDebtsModel", name := "askOf", desc := "(I)I" } : MethodName)) ∈ fd_gt := fd_gt_t (List.mem_of_getElem? (i := 1091) (by decide +kernel)) (by decide +kernel)
theorem kw_669 : (Cond.selects "FrostDebtsModel" ({ cls := "FrostDebtsModel", name := "askOf", desc := "(I)I" } : MethodName) ({ cls := "FrostDebtsModel", name := "askOf", desc := "(I)I" } : MethodName)) ∈ fd_gt := fd_gt_s (List.mem_of_getElem? (i := 58) (by decide +kernel)) (by decide +kernel)
theorem kw_670 : (Cond.methodLink "FrostDebtsModel" (260 : Nat) ({ cls := "FrostDebtsModel", name := "askOf", desc := "(I)I" } : MethodName)) ∈ fd_gt := fd_gt_t (List.mem_of_getElem? (i := 1089) (by decide +kernel)) (by decide +kernel)
theorem kw_671 : (Cond.code ({ cls := "FrostDebtsModel", name := "owedBy", desc := "(I)I" } : MethodName) prog_11_method_96_code (4 : Nat) (Option.some ClassFile.FieldType.int)) ∈ fd_gt := fd_gt_t (List.mem_of_getElem? (i := 1157) (by decide +kernel)) (by decide +kernel)
theorem kw_672 : (Cond.instanceMethod ({ cls := "FrostDebtsModel", name := "owedBy", desc := "(I)I" } : MethodName)) ∈ fd_gt := fd_gt_t (List.mem_of_getElem? (i := 1156) (by decide +kernel)) (by decide +kernel)
theorem kw_673 : (Cond.selects "FrostDebtsModel" ({ cls := "FrostDebtsModel", name := "owedBy", desc := "(I)I" } : MethodName) ({ cls := "FrostDebtsModel", name := "owedBy", desc := "(I)I" } : MethodName)) ∈ fd_gt := fd_gt_s (List.mem_of_getElem? (i := 63) (by decide +kernel)) (by decide +kernel)
theorem kw_674 : (Cond.methodLink "FrostDebtsModel" (292 : Nat) ({ cls := "FrostDebtsModel", name := "owedBy", desc := "(I)I" } : MethodName)) ∈ fd_gt := fd_gt_t (List.mem_of_getElem? (i := 1154) (by decide +kernel)) (by decide +kernel)
theorem kw_675 : (Cond.constantLong "FrostDebtsModel" (298 : Nat) (31 : Int64)) ∈ fd_gt := fd_gt_t (List.mem_of_getElem? (i := 1171) (by decide +kernel)) (by decide +kernel)
theorem kw_676 : (Cond.code ({ cls := "FrostDebtsModel", name := "warmth", desc := "(II)I" } : MethodName) prog_11_method_42_code (3 : Nat) (Option.some ClassFile.FieldType.int)) ∈ fd_gt := fd_gt_t (List.mem_of_getElem? (i := 896) (by decide +kernel)) (by decide +kernel)
theorem kw_677 : (Cond.instanceMethod ({ cls := "FrostDebtsModel", name := "warmth", desc := "(II)I" } : MethodName)) ∈ fd_gt := fd_gt_t (List.mem_of_getElem? (i := 894) (by decide +kernel)) (by decide +kernel)
theorem kw_678 : (Cond.selects "FrostDebtsModel" ({ cls := "FrostDebtsModel", name := "warmth", desc := "(II)I" } : MethodName) ({ cls := "FrostDebtsModel", name := "warmth", desc := "(II)I" } : MethodName)) ∈ fd_gt := fd_gt_t (List.mem_of_getElem? (i := 895) (by decide +kernel)) (by decide +kernel)
theorem kw_679 : (Cond.methodLink "FrostDebtsModel" (300 : Nat) ({ cls := "FrostDebtsModel", name := "warmth", desc := "(II)I" } : MethodName)) ∈ fd_gt := fd_gt_t (List.mem_of_getElem? (i := 1177) (by decide +kernel)) (by decide +kernel)
theorem kw_680 : (Cond.code ({ cls := "FrostDebtsModel", name := "freezes", desc := "(II)I" } : MethodName) prog_11_method_44_code (3 : Nat) (Option.some ClassFile.FieldType.int)) ∈ fd_gt := fd_gt_t (List.mem_of_getElem? (i := 908) (by decide +kernel)) (by decide +kernel)
theorem kw_681 : (Cond.instanceMethod ({ cls := "FrostDebtsModel", name := "freezes", desc := "(II)I" } : MethodName)) ∈ fd_gt := fd_gt_t (List.mem_of_getElem? (i := 906) (by decide +kernel)) (by decide +kernel)
theorem kw_682 : (Cond.selects "FrostDebtsModel" ({ cls := "FrostDebtsModel", name := "freezes", desc := "(II)I" } : MethodName) ({ cls := "FrostDebtsModel", name := "freezes", desc := "(II)I" } : MethodName)) ∈ fd_gt := fd_gt_t (List.mem_of_getElem? (i := 907) (by decide +kernel)) (by decide +kernel)
theorem kw_683 : (Cond.methodLink "FrostDebtsModel" (303 : Nat) ({ cls := "FrostDebtsModel", name := "freezes", desc := "(II)I" } : MethodName)) ∈ fd_gt := fd_gt_t (List.mem_of_getElem? (i := 1178) (by decide +kernel)) (by decide +kernel)
theorem kw_684 : (Cond.code ({ cls := "FrostDebtsModel", name := "was", desc := "(I)I" } : MethodName) prog_11_method_78_code (2 : Nat) (Option.some ClassFile.FieldType.int)) ∈ fd_gt := fd_gt_t (List.mem_of_getElem? (i := 1068) (by decide +kernel)) (by decide +kernel)
theorem kw_685 : (Cond.instanceMethod ({ cls := "FrostDebtsModel", name := "was", desc := "(I)I" } : MethodName)) ∈ fd_gt := fd_gt_t (List.mem_of_getElem? (i := 1066) (by decide +kernel)) (by decide +kernel)
theorem kw_686 : (Cond.selects "FrostDebtsModel" ({ cls := "FrostDebtsModel", name := "was", desc := "(I)I" } : MethodName) ({ cls := "FrostDebtsModel", name := "was", desc := "(I)I" } : MethodName)) ∈ fd_gt := fd_gt_t (List.mem_of_getElem? (i := 1067) (by decide +kernel)) (by decide +kernel)
theorem kw_687 : (Cond.methodLink "FrostDebtsModel" (306 : Nat) ({ cls := "FrostDebtsModel", name := "was", desc := "(I)I" } : MethodName)) ∈ fd_gt := fd_gt_t (List.mem_of_getElem? (i := 1188) (by decide +kernel)) (by decide +kernel)
theorem kw_688 : (Cond.code ({ cls := "FrostDebtsModel", name := "ask", desc := "(I)I" } : MethodName) prog_11_method_82_code (2 : Nat) (Option.some ClassFile.FieldType.int)) ∈ fd_gt := fd_gt_t (List.mem_of_getElem? (i := 1088) (by decide +kernel)) (by decide +kernel)
theorem kw_689 : (Cond.instanceMethod ({ cls := "FrostDebtsModel", name := "ask", desc := "(I)I" } : MethodName)) ∈ fd_gt := fd_gt_t (List.mem_of_getElem? (i := 1086) (by decide +kernel)) (by decide +kernel)
theorem kw_690 : (Cond.selects "FrostDebtsModel" ({ cls := "FrostDebtsModel", name := "ask", desc := "(I)I" } : MethodName) ({ cls := "FrostDebtsModel", name := "ask", desc := "(I)I" } : MethodName)) ∈ fd_gt := fd_gt_t (List.mem_of_getElem? (i := 1087) (by decide +kernel)) (by decide +kernel)
theorem kw_691 : (Cond.methodLink "FrostDebtsModel" (309 : Nat) ({ cls := "FrostDebtsModel", name := "ask", desc := "(I)I" } : MethodName)) ∈ fd_gt := fd_gt_t (List.mem_of_getElem? (i := 1189) (by decide +kernel)) (by decide +kernel)
theorem kw_692 : (Cond.constantLong "FrostDebtsModel" (312 : Nat) (17 : Int64)) ∈ fd_gt := fd_gt_t (List.mem_of_getElem? (i := 1170) (by decide +kernel)) (by decide +kernel)
theorem kw_693 : (Cond.code ({ cls := "FrostDebtsModel", name := "count", desc := "(I)I" } : MethodName) prog_11_method_99_code (2 : Nat) (Option.some ClassFile.FieldType.int)) ∈ fd_gt := fd_gt_t (List.mem_of_getElem? (i := 1161) (by decide +kernel)) (by decide +kernel)
theorem kw_694 : (Cond.instanceMethod ({ cls := "FrostDebtsModel", name := "count", desc := "(I)I" } : MethodName)) ∈ fd_gt := fd_gt_t (List.mem_of_getElem? (i := 1159) (by decide +kernel)) (by decide +kernel)
theorem kw_695 : (Cond.selects "FrostDebtsModel" ({ cls := "FrostDebtsModel", name := "count", desc := "(I)I" } : MethodName) ({ cls := "FrostDebtsModel", name := "count", desc := "(I)I" } : MethodName)) ∈ fd_gt := fd_gt_t (List.mem_of_getElem? (i := 1160) (by decide +kernel)) (by decide +kernel)
theorem kw_696 : (Cond.methodLink "FrostDebtsModel" (314 : Nat) ({ cls := "FrostDebtsModel", name := "count", desc := "(I)I" } : MethodName)) ∈ fd_gt := fd_gt_t (List.mem_of_getElem? (i := 1172) (by decide +kernel)) (by decide +kernel)
theorem kw_697 : (Cond.code ({ cls := "FrostDebtsModel", name := "placeDigest", desc := "(JI)J" } : MethodName) prog_11_method_100_code (6 : Nat) (Option.some ClassFile.FieldType.long)) ∈ fd_gt := fd_gt_t (List.mem_of_getElem? (i := 1176) (by decide +kernel)) (by decide +kernel)
theorem kw_698 : (Cond.instanceMethod ({ cls := "FrostDebtsModel", name := "placeDigest", desc := "(JI)J" } : MethodName)) ∈ fd_gt := fd_gt_t (List.mem_of_getElem? (i := 1175) (by decide +kernel)) (by decide +kernel)
theorem kw_699 : (Cond.selects "FrostDebtsModel" ({ cls := "FrostDebtsModel", name := "placeDigest", desc := "(JI)J" } : MethodName) ({ cls := "FrostDebtsModel", name := "placeDigest", desc := "(JI)J" } : MethodName)) ∈ fd_gt := fd_gt_s (List.mem_of_getElem? (i := 65) (by decide +kernel)) (by decide +kernel)
theorem kw_700 : (Cond.methodLink "FrostDebtsModel" (317 : Nat) ({ cls := "FrostDebtsModel", name := "placeDigest", desc := "(JI)J" } : MethodName)) ∈ fd_gt := fd_gt_t (List.mem_of_getElem? (i := 1173) (by decide +kernel)) (by decide +kernel)
theorem kw_701 : (Cond.code ({ cls := "FrostDebtsModel", name := "debtDigest", desc := "(JI)J" } : MethodName) prog_11_method_101_code (7 : Nat) (Option.some ClassFile.FieldType.long)) ∈ fd_gt := fd_gt_t (List.mem_of_getElem? (i := 1182) (by decide +kernel)) (by decide +kernel)
theorem kw_702 : (Cond.instanceMethod ({ cls := "FrostDebtsModel", name := "debtDigest", desc := "(JI)J" } : MethodName)) ∈ fd_gt := fd_gt_t (List.mem_of_getElem? (i := 1181) (by decide +kernel)) (by decide +kernel)
theorem kw_703 : (Cond.selects "FrostDebtsModel" ({ cls := "FrostDebtsModel", name := "debtDigest", desc := "(JI)J" } : MethodName) ({ cls := "FrostDebtsModel", name := "debtDigest", desc := "(JI)J" } : MethodName)) ∈ fd_gt := fd_gt_s (List.mem_of_getElem? (i := 66) (by decide +kernel)) (by decide +kernel)
theorem kw_704 : (Cond.methodLink "FrostDebtsModel" (321 : Nat) ({ cls := "FrostDebtsModel", name := "debtDigest", desc := "(JI)J" } : MethodName)) ∈ fd_gt := fd_gt_t (List.mem_of_getElem? (i := 1179) (by decide +kernel)) (by decide +kernel)
theorem kw_705 : (Cond.code ({ cls := "FrostDebtsModel", name := "nightDigest", desc := "(JI)J" } : MethodName) prog_11_method_102_code (6 : Nat) (Option.some ClassFile.FieldType.long)) ∈ fd_gt := fd_gt_t (List.mem_of_getElem? (i := 1187) (by decide +kernel)) (by decide +kernel)
theorem kw_706 : (Cond.instanceMethod ({ cls := "FrostDebtsModel", name := "nightDigest", desc := "(JI)J" } : MethodName)) ∈ fd_gt := fd_gt_t (List.mem_of_getElem? (i := 1186) (by decide +kernel)) (by decide +kernel)
theorem kw_707 : (Cond.selects "FrostDebtsModel" ({ cls := "FrostDebtsModel", name := "nightDigest", desc := "(JI)J" } : MethodName) ({ cls := "FrostDebtsModel", name := "nightDigest", desc := "(JI)J" } : MethodName)) ∈ fd_gt := fd_gt_s (List.mem_of_getElem? (i := 67) (by decide +kernel)) (by decide +kernel)
theorem kw_708 : (Cond.methodLink "FrostDebtsModel" (327 : Nat) ({ cls := "FrostDebtsModel", name := "nightDigest", desc := "(JI)J" } : MethodName)) ∈ fd_gt := fd_gt_t (List.mem_of_getElem? (i := 1184) (by decide +kernel)) (by decide +kernel)
theorem kw_709 : (Cond.code ({ cls := "FrostDebtsModel", name := "carry", desc := "(III)I" } : MethodName) prog_11_method_72_code (4 : Nat) (Option.some ClassFile.FieldType.int)) ∈ fd_gt := fd_gt_t (List.mem_of_getElem? (i := 1032) (by decide +kernel)) (by decide +kernel)
theorem kw_710 : (Cond.instanceMethod ({ cls := "FrostDebtsModel", name := "carry", desc := "(III)I" } : MethodName)) ∈ fd_gt := fd_gt_t (List.mem_of_getElem? (i := 1030) (by decide +kernel)) (by decide +kernel)
theorem kw_711 : (Cond.selects "FrostDebtsModel" ({ cls := "FrostDebtsModel", name := "carry", desc := "(III)I" } : MethodName) ({ cls := "FrostDebtsModel", name := "carry", desc := "(III)I" } : MethodName)) ∈ fd_gt := fd_gt_t (List.mem_of_getElem? (i := 1031) (by decide +kernel)) (by decide +kernel)
theorem kw_712 : (Cond.methodLink "FrostDebtsModel" (324 : Nat) ({ cls := "FrostDebtsModel", name := "carry", desc := "(III)I" } : MethodName)) ∈ fd_gt := fd_gt_t (List.mem_of_getElem? (i := 1183) (by decide +kernel)) (by decide +kernel)
theorem fl_X2_26 : fd_FL "FrostDebts$Places" 26 2 3 := ⟨_, _, _, rfl, inX2, by decide, kw_0⟩
theorem fl_X3_13 : fd_FL "FrostDebts$Row" 13 3 0 := ⟨_, _, _, rfl, inX3, by decide, kw_1⟩
theorem fl_X4_20 : fd_FL "FrostDebts$Sheet" 20 4 1 := ⟨_, _, _, rfl, inX4, by decide, kw_2⟩
theorem fl_X4_24 : fd_FL "FrostDebts$Sheet" 24 4 2 := ⟨_, _, _, rfl, inX4, by decide, kw_3⟩
theorem fl_X4_28 : fd_FL "FrostDebts$Sheet" 28 4 3 := ⟨_, _, _, rfl, inX4, by decide, kw_4⟩
theorem fl_X5_9 : fd_FL "FrostDebts$Spans" 9 5 0 := ⟨_, _, _, rfl, inX5, by decide, kw_5⟩
theorem fl_X8_40 : fd_FL "FrostDebts" 40 8 4 := ⟨_, _, _, rfl, inX8, by decide, kw_6⟩
theorem fl_X8_130 : fd_FL "FrostDebts" 130 1 3 := ⟨_, _, _, rfl, inX1, by decide, kw_7⟩
theorem ft_X1_3 : fd_FT 1 3 .int false := ⟨_, _, _, tyX1, rfl, tyX1_ok, nmX1, rfl, by decide +kernel, rfl⟩
theorem fl_X8_29 : fd_FL "FrostDebts" 29 8 2 := ⟨_, _, _, rfl, inX8, by decide, kw_8⟩
theorem fl_X8_150 : fd_FL "FrostDebts" 150 2 3 := ⟨_, _, _, rfl, inX2, by decide, kw_9⟩
theorem fl_X8_21 : fd_FL "FrostDebts" 21 8 1 := ⟨_, _, _, rfl, inX8, by decide, kw_10⟩
theorem fl_X8_98 : fd_FL "FrostDebts" 98 7 5 := ⟨_, _, _, rfl, inX7, by decide, kw_11⟩
theorem fl_X8_33 : fd_FL "FrostDebts" 33 8 3 := ⟨_, _, _, rfl, inX8, by decide, kw_12⟩
theorem fl_X8_104 : fd_FL "FrostDebts" 104 0 1 := ⟨_, _, _, rfl, inX0, by decide, kw_13⟩
theorem fl_X8_14 : fd_FL "FrostDebts" 14 8 0 := ⟨_, _, _, rfl, inX8, by decide, kw_14⟩
theorem fl_X8_73 : fd_FL "FrostDebts" 73 6 2 := ⟨_, _, _, rfl, inX6, by decide, kw_15⟩
theorem fl_X8_117 : fd_FL "FrostDebts" 117 7 1 := ⟨_, _, _, rfl, inX7, by decide, kw_16⟩
theorem fl_X8_124 : fd_FL "FrostDebts" 124 7 2 := ⟨_, _, _, rfl, inX7, by decide, kw_17⟩
theorem fl_X8_127 : fd_FL "FrostDebts" 127 7 3 := ⟨_, _, _, rfl, inX7, by decide, kw_18⟩
theorem fl_X8_58 : fd_FL "FrostDebts" 58 8 7 := ⟨_, _, _, rfl, inX8, by decide, kw_19⟩
theorem ft_X8_7 : fd_FT 8 7 .int false := ⟨_, _, _, tyX8, rfl, tyX8_ok, nmX8, rfl, by decide +kernel, rfl⟩
theorem fl_X9_7 : fd_FL "FrostDebtsModel" 7 9 0 := ⟨_, _, _, rfl, inX9, by decide, kw_24⟩
theorem fl_X9_13 : fd_FL "FrostDebtsModel" 13 9 1 := ⟨_, _, _, rfl, inX9, by decide, kw_25⟩
theorem fl_X9_37 : fd_FL "FrostDebtsModel" 37 9 12 := ⟨_, _, _, rfl, inX9, by decide, kw_26⟩
theorem fl_X9_34 : fd_FL "FrostDebtsModel" 34 9 11 := ⟨_, _, _, rfl, inX9, by decide, kw_27⟩
theorem fl_X9_31 : fd_FL "FrostDebtsModel" 31 9 10 := ⟨_, _, _, rfl, inX9, by decide, kw_28⟩
theorem fl_X9_28 : fd_FL "FrostDebtsModel" 28 9 9 := ⟨_, _, _, rfl, inX9, by decide, kw_29⟩
theorem fl_X9_25 : fd_FL "FrostDebtsModel" 25 9 8 := ⟨_, _, _, rfl, inX9, by decide, kw_30⟩
theorem fl_X9_40 : fd_FL "FrostDebtsModel" 40 9 14 := ⟨_, _, _, rfl, inX9, by decide, kw_31⟩
theorem fl_X9_43 : fd_FL "FrostDebtsModel" 43 9 15 := ⟨_, _, _, rfl, inX9, by decide, kw_32⟩
theorem fl_X9_46 : fd_FL "FrostDebtsModel" 46 9 16 := ⟨_, _, _, rfl, inX9, by decide, kw_33⟩
theorem fl_X9_156 : fd_FL "FrostDebtsModel" 156 9 18 := ⟨_, _, _, rfl, inX9, by decide, kw_34⟩
theorem fl_X9_19 : fd_FL "FrostDebtsModel" 19 9 4 := ⟨_, _, _, rfl, inX9, by decide, kw_35⟩
theorem fl_X9_22 : fd_FL "FrostDebtsModel" 22 9 6 := ⟨_, _, _, rfl, inX9, by decide, kw_36⟩
theorem fl_X9_16 : fd_FL "FrostDebtsModel" 16 9 3 := ⟨_, _, _, rfl, inX9, by decide, kw_37⟩
theorem fl_X9_105 : fd_FL "FrostDebtsModel" 105 9 2 := ⟨_, _, _, rfl, inX9, by decide, kw_38⟩
theorem fl_X9_53 : fd_FL "FrostDebtsModel" 53 9 19 := ⟨_, _, _, rfl, inX9, by decide, kw_39⟩
theorem fl_X9_235 : fd_FL "FrostDebtsModel" 235 9 21 := ⟨_, _, _, rfl, inX9, by decide, kw_40⟩
theorem ft_X9_21 : fd_FT 9 21 .int false := ⟨_, _, _, tyX9, rfl, tyX9_ok, nmX9, rfl, by decide +kernel, rfl⟩
theorem fl_X9_281 : fd_FL "FrostDebtsModel" 281 9 30 := ⟨_, _, _, rfl, inX9, by decide, kw_41⟩
theorem ft_X9_30 : fd_FT 9 30 .int false := ⟨_, _, _, tyX9, rfl, tyX9_ok, nmX9, rfl, by decide +kernel, rfl⟩
theorem fl_X9_77 : fd_FL "FrostDebtsModel" 77 9 28 := ⟨_, _, _, rfl, inX9, by decide, kw_42⟩
theorem fl_X9_71 : fd_FL "FrostDebtsModel" 71 9 26 := ⟨_, _, _, rfl, inX9, by decide, kw_43⟩
theorem fl_X0_30 : fd_FL "FrostDebts$Debts" 30 6 0 := ⟨_, _, _, rfl, inX6, by decide, kw_47⟩
theorem fl_X0_14 : fd_FL "FrostDebts$Debts" 14 0 0 := ⟨_, _, _, rfl, inX0, by decide, kw_53⟩
theorem fl_X1_26 : fd_FL "FrostDebts$Marks" 26 1 3 := ⟨_, _, _, rfl, inX1, by decide, kw_58⟩
theorem fl_X1_14 : fd_FL "FrostDebts$Marks" 14 1 0 := ⟨_, _, _, rfl, inX1, by decide, kw_59⟩
theorem fl_X1_20 : fd_FL "FrostDebts$Marks" 20 1 1 := ⟨_, _, _, rfl, inX1, by decide, kw_61⟩
theorem fl_X1_23 : fd_FL "FrostDebts$Marks" 23 1 2 := ⟨_, _, _, rfl, inX1, by decide, kw_62⟩
theorem ft_X2_3 : fd_FT 2 3 .int false := ⟨_, _, _, tyX2, rfl, tyX2_ok, nmX2, rfl, by decide +kernel, rfl⟩
theorem fl_X2_14 : fd_FL "FrostDebts$Places" 14 2 0 := ⟨_, _, _, rfl, inX2, by decide, kw_68⟩
theorem fl_X2_36 : fd_FL "FrostDebts$Places" 36 6 0 := ⟨_, _, _, rfl, inX6, by decide, kw_69⟩
theorem fl_X2_20 : fd_FL "FrostDebts$Places" 20 2 1 := ⟨_, _, _, rfl, inX2, by decide, kw_72⟩
theorem fl_X2_23 : fd_FL "FrostDebts$Places" 23 2 2 := ⟨_, _, _, rfl, inX2, by decide, kw_76⟩
theorem ft_X4_1 : fd_FT 4 1 .boolean false := ⟨_, _, _, tyX4, rfl, tyX4_ok, nmX4, rfl, by decide +kernel, rfl⟩
theorem ft_X4_2 : fd_FT 4 2 .int false := ⟨_, _, _, tyX4, rfl, tyX4_ok, nmX4, rfl, by decide +kernel, rfl⟩
theorem ft_X4_3 : fd_FT 4 3 .int false := ⟨_, _, _, tyX4, rfl, tyX4_ok, nmX4, rfl, by decide +kernel, rfl⟩
theorem fl_X4_14 : fd_FL "FrostDebts$Sheet" 14 4 0 := ⟨_, _, _, rfl, inX4, by decide, kw_81⟩
theorem fl_X6_7 : fd_FL "FrostDebts$Text" 7 6 2 := ⟨_, _, _, rfl, inX6, by decide, kw_91⟩
theorem fl_X6_13 : fd_FL "FrostDebts$Text" 13 6 1 := ⟨_, _, _, rfl, inX6, by decide, kw_92⟩
theorem fl_X6_21 : fd_FL "FrostDebts$Text" 21 6 0 := ⟨_, _, _, rfl, inX6, by decide, kw_93⟩
theorem ft_X6_2 : fd_FT 6 2 .int false := ⟨_, _, _, tyX6, rfl, tyX6_ok, nmX6, rfl, by decide +kernel, rfl⟩
theorem fl_X7_40 : fd_FL "FrostDebts$Weather" 40 7 5 := ⟨_, _, _, rfl, inX7, by decide, kw_96⟩
theorem ft_X7_5 : fd_FT 7 5 .int false := ⟨_, _, _, tyX7, rfl, tyX7_ok, nmX7, rfl, by decide +kernel, rfl⟩
theorem fl_X7_36 : fd_FL "FrostDebts$Weather" 36 7 4 := ⟨_, _, _, rfl, inX7, by decide, kw_97⟩
theorem fl_X7_70 : fd_FL "FrostDebts$Weather" 70 6 0 := ⟨_, _, _, rfl, inX6, by decide, kw_98⟩
theorem fl_X7_12 : fd_FL "FrostDebts$Weather" 12 7 0 := ⟨_, _, _, rfl, inX7, by decide, kw_101⟩
theorem fl_X7_103 : fd_FL "FrostDebts$Weather" 103 2 1 := ⟨_, _, _, rfl, inX2, by decide, kw_102⟩
theorem fl_X7_106 : fd_FL "FrostDebts$Weather" 106 2 2 := ⟨_, _, _, rfl, inX2, by decide, kw_103⟩
theorem fl_X7_44 : fd_FL "FrostDebts$Weather" 44 7 6 := ⟨_, _, _, rfl, inX7, by decide, kw_104⟩
theorem fl_X8_95 : fd_FL "FrostDebts" 95 2 1 := ⟨_, _, _, rfl, inX2, by decide, kw_112⟩
theorem fl_X8_85 : fd_FL "FrostDebts" 85 2 0 := ⟨_, _, _, rfl, inX2, by decide, kw_114⟩
theorem fl_X8_101 : fd_FL "FrostDebts" 101 7 4 := ⟨_, _, _, rfl, inX7, by decide, kw_115⟩
theorem fl_X8_131 : fd_FL "FrostDebts" 131 2 2 := ⟨_, _, _, rfl, inX2, by decide, kw_116⟩
theorem fl_X8_134 : fd_FL "FrostDebts" 134 7 9 := ⟨_, _, _, rfl, inX7, by decide, kw_117⟩
theorem fl_X8_144 : fd_FL "FrostDebts" 144 7 10 := ⟨_, _, _, rfl, inX7, by decide, kw_122⟩
theorem fl_X8_54 : fd_FL "FrostDebts" 54 8 6 := ⟨_, _, _, rfl, inX8, by decide, kw_123⟩
theorem fl_X8_192 : fd_FL "FrostDebts" 192 4 1 := ⟨_, _, _, rfl, inX4, by decide, kw_124⟩
theorem fl_X8_199 : fd_FL "FrostDebts" 199 4 3 := ⟨_, _, _, rfl, inX4, by decide, kw_125⟩
theorem fl_X8_200 : fd_FL "FrostDebts" 200 4 0 := ⟨_, _, _, rfl, inX4, by decide, kw_136⟩
theorem fl_X9_117 : fd_FL "FrostDebtsModel" 117 9 5 := ⟨_, _, _, rfl, inX9, by decide, kw_153⟩
theorem ft_X9_5 : fd_FT 9 5 .int false := ⟨_, _, _, tyX9, rfl, tyX9_ok, nmX9, rfl, by decide +kernel, rfl⟩
theorem fl_X9_83 : fd_FL "FrostDebtsModel" 83 9 13 := ⟨_, _, _, rfl, inX9, by decide, kw_154⟩
theorem ft_X9_13 : fd_FT 9 13 .int false := ⟨_, _, _, tyX9, rfl, tyX9_ok, nmX9, rfl, by decide +kernel, rfl⟩
theorem fl_X9_68 : fd_FL "FrostDebtsModel" 68 9 25 := ⟨_, _, _, rfl, inX9, by decide, kw_167⟩
theorem fl_X9_74 : fd_FL "FrostDebtsModel" 74 9 27 := ⟨_, _, _, rfl, inX9, by decide, kw_168⟩
theorem fl_X0_20 : fd_FL "FrostDebts$Debts" 20 0 1 := ⟨_, _, _, rfl, inX0, by decide, kw_170⟩
theorem ft_X0_1 : fd_FT 0 1 .int false := ⟨_, _, _, tyX0, rfl, tyX0_ok, nmX0, rfl, by decide +kernel, rfl⟩
theorem fl_X7_54 : fd_FL "FrostDebts$Weather" 54 7 8 := ⟨_, _, _, rfl, inX7, by decide, kw_181⟩
theorem fl_X7_47 : fd_FL "FrostDebts$Weather" 47 7 7 := ⟨_, _, _, rfl, inX7, by decide, kw_189⟩
theorem fl_X7_61 : fd_FL "FrostDebts$Weather" 61 7 10 := ⟨_, _, _, rfl, inX7, by decide, kw_190⟩
theorem fl_X7_58 : fd_FL "FrostDebts$Weather" 58 7 9 := ⟨_, _, _, rfl, inX7, by decide, kw_191⟩
theorem fl_X8_255 : fd_FL "FrostDebts" 255 4 2 := ⟨_, _, _, rfl, inX4, by decide, kw_218⟩
theorem fl_X8_316 : fd_FL "FrostDebts" 316 6 0 := ⟨_, _, _, rfl, inX6, by decide, kw_227⟩
theorem fl_X8_339 : fd_FL "FrostDebts" 339 1 1 := ⟨_, _, _, rfl, inX1, by decide, kw_234⟩
theorem fl_X8_342 : fd_FL "FrostDebts" 342 1 0 := ⟨_, _, _, rfl, inX1, by decide, kw_235⟩
theorem fl_X8_344 : fd_FL "FrostDebts" 344 1 2 := ⟨_, _, _, rfl, inX1, by decide, kw_236⟩
theorem fl_X9_49 : fd_FL "FrostDebtsModel" 49 9 17 := ⟨_, _, _, rfl, inX9, by decide, kw_250⟩
theorem fl_X9_108 : fd_FL "FrostDebtsModel" 108 9 7 := ⟨_, _, _, rfl, inX9, by decide, kw_259⟩
theorem fl_X9_59 : fd_FL "FrostDebtsModel" 59 9 22 := ⟨_, _, _, rfl, inX9, by decide, kw_260⟩
theorem fl_X9_62 : fd_FL "FrostDebtsModel" 62 9 23 := ⟨_, _, _, rfl, inX9, by decide, kw_261⟩
theorem fl_X9_65 : fd_FL "FrostDebtsModel" 65 9 24 := ⟨_, _, _, rfl, inX9, by decide, kw_262⟩
theorem fl_X9_80 : fd_FL "FrostDebtsModel" 80 9 29 := ⟨_, _, _, rfl, inX9, by decide, kw_279⟩
theorem fl_X7_21 : fd_FL "FrostDebts$Weather" 21 7 1 := ⟨_, _, _, rfl, inX7, by decide, kw_280⟩
theorem ft_X7_7 : fd_FT 7 7 .long false := ⟨_, _, _, tyX7, rfl, tyX7_ok, nmX7, rfl, by decide +kernel, rfl⟩
theorem fl_X7_87 : fd_FL "FrostDebts$Weather" 87 2 3 := ⟨_, _, _, rfl, inX2, by decide, kw_285⟩
theorem fl_X7_25 : fd_FL "FrostDebts$Weather" 25 7 2 := ⟨_, _, _, rfl, inX7, by decide, kw_286⟩
theorem fl_X7_28 : fd_FL "FrostDebts$Weather" 28 7 3 := ⟨_, _, _, rfl, inX7, by decide, kw_291⟩
theorem fl_X8_47 : fd_FL "FrostDebts" 47 8 5 := ⟨_, _, _, rfl, inX8, by decide, kw_310⟩
theorem ft_X9_2 : fd_FT 9 2 .int false := ⟨_, _, _, tyX9, rfl, tyX9_ok, nmX9, rfl, by decide +kernel, rfl⟩
theorem ft_X9_7 : fd_FT 9 7 .int false := ⟨_, _, _, tyX9, rfl, tyX9_ok, nmX9, rfl, by decide +kernel, rfl⟩
theorem fl_X9_56 : fd_FL "FrostDebtsModel" 56 9 20 := ⟨_, _, _, rfl, inX9, by decide, kw_357⟩
theorem fl_X8_111 : fd_FL "FrostDebts" 111 7 6 := ⟨_, _, _, rfl, inX7, by decide, kw_369⟩
theorem ft_X7_6 : fd_FT 7 6 .int false := ⟨_, _, _, tyX7, rfl, tyX7_ok, nmX7, rfl, by decide +kernel, rfl⟩
theorem ft_X9_18 : fd_FT 9 18 .int false := ⟨_, _, _, tyX9, rfl, tyX9_ok, nmX9, rfl, by decide +kernel, rfl⟩
def fd_no : Nat → Option Nat := fun _ => none
def fd_shL : List fd_Sh := [.inr (8, [some (.inl 1), some (.inl 11), some (.inl 12), some (.inl 48), some (.inl 51), some (.inl 58), some (.inl 60), some (.inr false)]), .inl (3, 3, fun j => some (2 + 3 * j)), .inr (6, [some (.inl 3), some (.inr false), some (.inr false)]), .inr (3, [some (.inl 4)]), .inl (0, 23, fd_no), .inr (6, [some (.inl 6), some (.inr false), some (.inr false)]), .inr (3, [some (.inl 7)]), .inl (0, 40, fd_no), .inr (6, [some (.inl 9), some (.inr false), some (.inr false)]), .inr (3, [some (.inl 10)]), .inl (0, 71, fd_no), .inr (7, [some (.inl 12), some (.inl 19), some (.inl 26), some (.inl 33), some (.inl 40), some (.inr false), some (.inr false), some (.inr true), some (.inl 42), some (.inl 44), some (.inl 46)]), .inr (2, [some (.inl 13), some (.inl 15), some (.inl 17), some (.inr false)]), .inr (3, [some (.inl 14)]), .inl (0, 8, fd_no), .inr (3, [some (.inl 16)]), .inl (0, 8, fd_no), .inr (3, [some (.inl 18)]), .inl (0, 8, fd_no), .inr (1, [some (.inl 20), some (.inl 22), some (.inl 24), some (.inr false)]), .inr (3, [some (.inl 21)]), .inl (0, 8, fd_no), .inr (3, [some (.inl 23)]), .inl (0, 8, fd_no), .inr (3, [some (.inl 25)]), .inl (0, 8, fd_no), .inr (1, [some (.inl 27), some (.inl 29), some (.inl 31), some (.inr false)]), .inr (3, [some (.inl 28)]), .inl (0, 8, fd_no), .inr (3, [some (.inl 30)]), .inl (0, 8, fd_no), .inr (3, [some (.inl 32)]), .inl (0, 8, fd_no), .inr (1, [some (.inl 34), some (.inl 36), some (.inl 38), some (.inr false)]), .inr (3, [some (.inl 35)]), .inl (0, 8, fd_no), .inr (3, [some (.inl 37)]), .inl (0, 8, fd_no), .inr (3, [some (.inl 39)]), .inl (0, 8, fd_no), .inr (3, [some (.inl 41)]), .inl (0, 40, fd_no), .inr (5, [some (.inl 43)]), .inl (1, 8, fd_no), .inr (5, [some (.inl 45)]), .inl (1, 8, fd_no), .inr (5, [some (.inl 47)]), .inl (1, 8, fd_no), .inr (0, [some (.inl 49), some (.inr false)]), .inr (3, [some (.inl 50)]), .inl (0, 45, fd_no), .inr (1, [some (.inl 52), some (.inl 54), some (.inl 56), some (.inr false)]), .inr (3, [some (.inl 53)]), .inl (0, 8, fd_no), .inr (3, [some (.inl 55)]), .inl (0, 8, fd_no), .inr (3, [some (.inl 57)]), .inl (0, 8, fd_no), .inr (5, [some (.inl 59)]), .inl (1, 8, fd_no), .inl (4, 4, fun j => some (61 + 3 * j)), .inr (4, [some (.inl 62), some (.inr false), some (.inr false), some (.inr false)]), .inr (3, [some (.inl 63)]), .inl (0, 48, fd_no), .inr (4, [some (.inl 65), some (.inr false), some (.inr false), some (.inr false)]), .inr (3, [some (.inl 66)]), .inl (0, 48, fd_no), .inr (4, [some (.inl 68), some (.inr false), some (.inr false), some (.inr false)]), .inr (3, [some (.inl 69)]), .inl (0, 48, fd_no), .inr (4, [some (.inl 71), some (.inr false), some (.inr false), some (.inr false)]), .inr (3, [some (.inl 72)]), .inl (0, 48, fd_no), .inr (9, [some (.inl 74), some (.inl 75), some (.inr false), some (.inl 76), some (.inl 77), some (.inr false), some (.inl 78), some (.inr false), some (.inl 79), some (.inl 80), some (.inl 81), some (.inl 82), some (.inl 83), some (.inr false), some (.inl 84), some (.inl 85), some (.inl 86), some (.inl 87), some (.inr false), some (.inl 88), some (.inl 89), some (.inr false), some (.inl 90), some (.inl 91), some (.inl 92), some (.inl 93), some (.inl 94), some (.inl 95), some (.inl 96), some (.inl 97), some (.inr false)]), .inl (0, 3, fd_no), .inl (0, 213, fd_no), .inl (0, 9, fd_no), .inl (0, 9, fd_no), .inl (0, 41, fd_no), .inl (0, 10, fd_no), .inl (0, 10, fd_no), .inl (0, 10, fd_no), .inl (0, 10, fd_no), .inl (0, 10, fd_no), .inl (0, 3, fd_no), .inl (0, 24, fd_no), .inl (0, 24, fd_no), .inl (2, 40, fd_no), .inl (0, 8, fd_no), .inl (0, 3, fd_no), .inl (0, 8, fd_no), .inl (0, 8, fd_no), .inl (0, 8, fd_no), .inl (2, 4, fd_no), .inl (0, 4, fd_no), .inl (0, 4, fd_no), .inl (0, 192, fd_no), .inl (0, 48, fd_no)]
def fd_sh (k : Nat) : fd_Sh := fd_shL.getD k (.inl (0, 0, fd_no))
def fd_X0 : fd_X := (98, fd_sh)
def fd_mx (a b : fd_H) : fd_H := (fun k => if k < 73 then a.1 k else b.1 k, fun k => if k < 73 then a.2 k else b.2 k)
theorem fd_mx_xi {a b : fd_H} {k : Nat} (h : k < 73) : (fd_mx a b).1 k = a.1 k := if_pos h
theorem fd_mx_xl {a b : fd_H} {k : Nat} (h : k < 73) : (fd_mx a b).2 k = a.2 k := if_pos h
theorem fd_mx_mi {a b : fd_H} {k : Nat} (h : 73 ≤ k) : (fd_mx a b).1 k = b.1 k := if_neg (Nat.not_lt.mpr h)
theorem fd_mx_ml {a b : fd_H} {k : Nat} (h : 73 ≤ k) : (fd_mx a b).2 k = b.2 k := if_neg (Nat.not_lt.mpr h)
theorem fd_ext {a b : fd_H} (h1 : ∀ k, a.1 k = b.1 k) (h2 : ∀ k, a.2 k = b.2 k) : a = b := Prod.ext (funext h1) (funext h2)
theorem fd_mx_xui {a b : fd_H} {k j : Nat} {v : Int32} (h : k < 73) : fd_ui (fd_mx a b) k j v = fd_mx (fd_ui a k j v) b := by
  refine fd_ext (fun q => ?_) (fun q => rfl)
  by_cases e : q = k
  · subst e; rw [fd_ui_self, fd_mx_xi h, fd_mx_xi h, fd_ui_self]
  · rw [fd_ui_ne q e]
    by_cases l : q < 73
    · rw [fd_mx_xi l, fd_mx_xi l, fd_ui_ne q e]
    · rw [fd_mx_mi (Nat.not_lt.mp l), fd_mx_mi (Nat.not_lt.mp l)]
theorem fd_mx_xul {a b : fd_H} {k j : Nat} {v : Int64} (h : k < 73) : fd_ul (fd_mx a b) k j v = fd_mx (fd_ul a k j v) b := by
  refine fd_ext (fun q => rfl) (fun q => ?_)
  by_cases e : q = k
  · subst e; rw [fd_ul_self, fd_mx_xl h, fd_mx_xl h, fd_ul_self]
  · rw [fd_ul_ne q e]
    by_cases l : q < 73
    · rw [fd_mx_xl l, fd_mx_xl l, fd_ul_ne q e]
    · rw [fd_mx_ml (Nat.not_lt.mp l), fd_mx_ml (Nat.not_lt.mp l)]
theorem fd_mx_mui {a b : fd_H} {k j : Nat} {v : Int32} (h : 73 ≤ k) : fd_ui (fd_mx a b) k j v = fd_mx a (fd_ui b k j v) := by
  refine fd_ext (fun q => ?_) (fun q => rfl)
  by_cases e : q = k
  · subst e; rw [fd_ui_self, fd_mx_mi h, fd_mx_mi h, fd_ui_self]
  · rw [fd_ui_ne q e]
    by_cases l : q < 73
    · rw [fd_mx_xi l, fd_mx_xi l]
    · rw [fd_mx_mi (Nat.not_lt.mp l), fd_mx_mi (Nat.not_lt.mp l), fd_ui_ne q e]
def fd_lt {α β : Type} (e : α) (k : α → β) : β := k e
theorem fd_lt_e {α β : Type} {e : α} {k : α → β} {r : β} (h : fd_lt e k = r) : ∃ x, x = e ∧ k x = r := ⟨e, rfl, h⟩
def fd_isRow (k n : Nat) : Prop := k + 1 < 73 ∧ fd_sh k = .inr (3, [some (.inl (k + 1))]) ∧ fd_sh (k + 1) = .inl (0, n, fd_no)
theorem fd_isRow.x {k n : Nat} (p : fd_isRow k n) : k < 73 := by have := p.1; omega
theorem fd_isRow.b {k n : Nat} (p : fd_isRow k n) : k < fd_X0.1 := by have := p.1; show k < 98; omega
theorem fd_isRow.s {k n : Nat} (p : fd_isRow k n) : fd_X0.2 k = .inr (3, [some (.inl (k + 1))]) := p.2.1
theorem fd_isRow.ax {k n : Nat} (p : fd_isRow k n) : k + 1 < 73 := p.1
theorem fd_isRow.ab {k n : Nat} (p : fd_isRow k n) : k + 1 < fd_X0.1 := by have := p.1; show k + 1 < 98; omega
theorem fd_isRow.as {k n : Nat} (p : fd_isRow k n) : fd_X0.2 (k + 1) = .inl (0, n, fd_no) := p.2.2
def fd_isText (k n : Nat) : Prop := fd_sh k = .inr (6, [some (.inl (k + 1)), some (.inr false), some (.inr false)]) ∧ fd_isRow (k + 1) n
theorem fd_isText.x {k n : Nat} (p : fd_isText k n) : k < 73 := by have := p.2.1; omega
theorem fd_isText.b {k n : Nat} (p : fd_isText k n) : k < fd_X0.1 := by have := p.2.1; show k < 98; omega
theorem fd_isText.s {k n : Nat} (p : fd_isText k n) : fd_X0.2 k = .inr (6, [some (.inl (k + 1)), some (.inr false), some (.inr false)]) := p.1
theorem fd_isText.row {k n : Nat} (p : fd_isText k n) : fd_isRow (k + 1) n := p.2
def fd_isMarks (k : Nat) : Prop := fd_sh k = .inr (1, [some (.inl (k + 1)), some (.inl (k + 3)), some (.inl (k + 5)), some (.inr false)]) ∧ fd_isRow (k + 1) 8 ∧ fd_isRow (k + 3) 8 ∧ fd_isRow (k + 5) 8
theorem fd_isMarks.x {k : Nat} (p : fd_isMarks k) : k < 73 := by have := p.2.1.1; omega
theorem fd_isMarks.b {k : Nat} (p : fd_isMarks k) : k < fd_X0.1 := by have := p.2.1.1; show k < 98; omega
theorem fd_isMarks.s {k : Nat} (p : fd_isMarks k) : fd_X0.2 k = .inr (1, [some (.inl (k + 1)), some (.inl (k + 3)), some (.inl (k + 5)), some (.inr false)]) := p.1
theorem fd_isMarks.r1 {k : Nat} (p : fd_isMarks k) : fd_isRow (k + 1) 8 := p.2.1
theorem fd_isMarks.r2 {k : Nat} (p : fd_isMarks k) : fd_isRow (k + 3) 8 := p.2.2.1
theorem fd_isMarks.r3 {k : Nat} (p : fd_isMarks k) : fd_isRow (k + 5) 8 := p.2.2.2
def fd_isSpans (k : Nat) : Prop := k + 1 < 73 ∧ fd_sh k = .inr (5, [some (.inl (k + 1))]) ∧ fd_sh (k + 1) = .inl (1, 8, fd_no)
theorem fd_isSpans.x {k : Nat} (p : fd_isSpans k) : k < 73 := by have := p.1; omega
theorem fd_isSpans.b {k : Nat} (p : fd_isSpans k) : k < fd_X0.1 := by have := p.1; show k < 98; omega
theorem fd_isSpans.s {k : Nat} (p : fd_isSpans k) : fd_X0.2 k = .inr (5, [some (.inl (k + 1))]) := p.2.1
theorem fd_isSpans.ax {k : Nat} (p : fd_isSpans k) : k + 1 < 73 := p.1
theorem fd_isSpans.ab {k : Nat} (p : fd_isSpans k) : k + 1 < fd_X0.1 := by have := p.1; show k + 1 < 98; omega
theorem fd_isSpans.as {k : Nat} (p : fd_isSpans k) : fd_X0.2 (k + 1) = .inl (1, 8, fd_no) := p.2.2
def fd_isSheet (k : Nat) : Prop := fd_sh k = .inr (4, [some (.inl (k + 1)), some (.inr false), some (.inr false), some (.inr false)]) ∧ fd_isRow (k + 1) 48
theorem fd_isSheet.x {k : Nat} (p : fd_isSheet k) : k < 73 := by have := p.2.1; omega
theorem fd_isSheet.b {k : Nat} (p : fd_isSheet k) : k < fd_X0.1 := by have := p.2.1; show k < 98; omega
theorem fd_isSheet.s {k : Nat} (p : fd_isSheet k) : fd_X0.2 k = .inr (4, [some (.inl (k + 1)), some (.inr false), some (.inr false), some (.inr false)]) := p.1
theorem fd_isSheet.row {k : Nat} (p : fd_isSheet k) : fd_isRow (k + 1) 48 := p.2
def fd_tn (i : Int32) : Nat := if i.toNatClampNeg = 0 then 23 else if i.toNatClampNeg = 1 then 40 else 71
theorem fd_isTextA {i : Int32} (h : fd_in i 3 = true) : fd_isText (2 + 3 * i.toNatClampNeg) (fd_tn i) := by
  have h1 := fd_inl h
  unfold fd_tn
  generalize i.toNatClampNeg = j at h1 ⊢
  match j, h1 with
  | 0, _ => exact ⟨rfl, by decide, rfl, rfl⟩
  | 1, _ => exact ⟨rfl, by decide, rfl, rfl⟩
  | 2, _ => exact ⟨rfl, by decide, rfl, rfl⟩
theorem fd_isSheetA {i : Int32} (h : fd_in i 4 = true) : fd_isSheet (61 + 3 * i.toNatClampNeg) := by
  have h1 := fd_inl h
  generalize i.toNatClampNeg = j at h1 ⊢
  match j, h1 with
  | 0, _ => exact ⟨rfl, by decide, rfl, rfl⟩
  | 1, _ => exact ⟨rfl, by decide, rfl, rfl⟩
  | 2, _ => exact ⟨rfl, by decide, rfl, rfl⟩
  | 3, _ => exact ⟨rfl, by decide, rfl, rfl⟩
section fd_sides
variable {g : fd_G} {M : fd_M} {E : Array Value → State → Prop} {R : Room} {Q : Array Value → State → List Frame → State → Prop} {pc : Nat} {lv lv' : List (Nat × Value)} {st : List Value} {X : fd_X} {h h' hm : fd_H} {cells slots : Nat}
theorem fr_nmz {x y : Bool} (e : y = x) (kk : fd_A g M E R Q pc lv (.int (fd_b y) :: st) X h cells slots) : fd_A g M E R Q pc lv (.int (fd_b x) :: st) X h cells slots := by rw [← e]; exact kk
theorem vx_getI {k ci j idx : Nat} {fs : List fd_F} (hd : decode M.2.1 pc = .ok (.getfield idx, 3)) (hf : fd_FL M.1.cls idx ci j) (hk : k < X.1) (hx : k < 73) (hs : X.2 k = .inr (ci, fs)) (hv : fs[j]? = some (some (.inr false))) (kk : fd_A g M E R Q (pc + 3) lv (.int (h.1 k j) :: st) X (fd_mx h hm) cells slots) : fd_A g M E R Q pc lv (.ref (g.2.2.2 + k) :: st) X (fd_mx h hm) cells slots := fr_getI hd hf hk hs hv (by rw [fd_mx_xi hx]; exact kk)
theorem vx_getL {k ci j idx : Nat} {fs : List fd_F} (hd : decode M.2.1 pc = .ok (.getfield idx, 3)) (hf : fd_FL M.1.cls idx ci j) (hk : k < X.1) (hx : k < 73) (hs : X.2 k = .inr (ci, fs)) (hv : fs[j]? = some (some (.inr true))) (kk : fd_A g M E R Q (pc + 3) lv (.long (h.2 k j) :: st) X (fd_mx h hm) cells slots) : fd_A g M E R Q pc lv (.ref (g.2.2.2 + k) :: st) X (fd_mx h hm) cells slots := fr_getL hd hf hk hs hv (by rw [fd_mx_xl hx]; exact kk)
theorem vx_putI {k ci j idx : Nat} {x : Int32} {fs : List fd_F} (hd : decode M.2.1 pc = .ok (.putfield idx, 3)) (hf : fd_FL M.1.cls idx ci j) (hft : fd_FT ci j .int false) (hk : k < X.1) (hx : k < 73) (hs : X.2 k = .inr (ci, fs)) (hv : fs[j]? = some (some (.inr false))) (e : h' = fd_ui h k j (x)) (kk : fd_A g M E R Q (pc + 3) lv st X (fd_mx h' hm) cells slots) : fd_A g M E R Q pc lv (.int (x) :: .ref (g.2.2.2 + k) :: st) X (fd_mx h hm) cells slots := fr_putI false hd hf hft (fun q => by cases q) hk hs hv (by rw [fd_mx_xui hx, ← e]; exact kk)
theorem vx_putZ {k ci j idx : Nat} {x : Bool} {fs : List fd_F} (hd : decode M.2.1 pc = .ok (.putfield idx, 3)) (hf : fd_FL M.1.cls idx ci j) (hft : fd_FT ci j .boolean false) (hk : k < X.1) (hx : k < 73) (hs : X.2 k = .inr (ci, fs)) (hv : fs[j]? = some (some (.inr false))) (e : h' = fd_ui h k j (fd_b x)) (kk : fd_A g M E R Q (pc + 3) lv st X (fd_mx h' hm) cells slots) : fd_A g M E R Q pc lv (.int (fd_b x) :: .ref (g.2.2.2 + k) :: st) X (fd_mx h hm) cells slots := fr_putZ false hd hf hft (fun q => by cases q) hk hs hv (by rw [fd_mx_xui hx, ← e]; exact kk)
theorem vx_putL {k ci j idx : Nat} {x : Int64} {fs : List fd_F} (hd : decode M.2.1 pc = .ok (.putfield idx, 3)) (hf : fd_FL M.1.cls idx ci j) (hft : fd_FT ci j .long false) (hk : k < X.1) (hx : k < 73) (hs : X.2 k = .inr (ci, fs)) (hv : fs[j]? = some (some (.inr true))) (e : h' = fd_ul h k j (x)) (kk : fd_A g M E R Q (pc + 3) lv st X (fd_mx h' hm) cells slots) : fd_A g M E R Q pc lv (.long (x) :: .ref (g.2.2.2 + k) :: st) X (fd_mx h hm) cells slots := fr_putL false hd hf hft (fun q => by cases q) hk hs hv (by rw [fd_mx_xul hx, ← e]; exact kk)
theorem vx_iald {k n : Nat} {i : Int32} {rf : Nat → Option Nat} (hd : decode M.2.1 pc = .ok (.iaload, 1)) (hk : k < X.1) (hx : k < 73) (hs : X.2 k = .inl (0, n, rf)) (hin : fd_in i n = true) (kk : fd_A g M E R Q (pc + 1) lv (.int (h.1 k i.toNatClampNeg) :: st) X (fd_mx h hm) cells slots) : fd_A g M E R Q pc lv (.int i :: .ref (g.2.2.2 + k) :: st) X (fd_mx h hm) cells slots := fr_iald hd hk hs hin (by rw [fd_mx_xi hx]; exact kk)
theorem vx_lald {k n : Nat} {i : Int32} {rf : Nat → Option Nat} (hd : decode M.2.1 pc = .ok (.laload, 1)) (hk : k < X.1) (hx : k < 73) (hs : X.2 k = .inl (1, n, rf)) (hin : fd_in i n = true) (kk : fd_A g M E R Q (pc + 1) lv (.long (h.2 k i.toNatClampNeg) :: st) X (fd_mx h hm) cells slots) : fd_A g M E R Q pc lv (.int i :: .ref (g.2.2.2 + k) :: st) X (fd_mx h hm) cells slots := fr_lald hd hk hs hin (by rw [fd_mx_xl hx]; exact kk)
theorem vx_zald {k n : Nat} {i : Int32} {rf : Nat → Option Nat} (hd : decode M.2.1 pc = .ok (.baload, 1)) (hk : k < X.1) (hx : k < 73) (hs : X.2 k = .inl (2, n, rf)) (hin : fd_in i n = true) (kk : fd_A g M E R Q (pc + 1) lv (.int (h.1 k i.toNatClampNeg) :: st) X (fd_mx h hm) cells slots) : fd_A g M E R Q pc lv (.int i :: .ref (g.2.2.2 + k) :: st) X (fd_mx h hm) cells slots := fr_zald hd hk hs hin (by rw [fd_mx_xi hx]; exact kk)
theorem vx_iast {k n : Nat} {i : Int32} {x : Int32} {rf : Nat → Option Nat} (hd : decode M.2.1 pc = .ok (.iastore, 1)) (hk : k < X.1) (hx : k < 73) (hs : X.2 k = .inl (0, n, rf)) (hin : fd_in i n = true) (e : h' = fd_ui h k i.toNatClampNeg (x)) (kk : fd_A g M E R Q (pc + 1) lv st X (fd_mx h' hm) cells slots) : fd_A g M E R Q pc lv (.int (x) :: .int i :: .ref (g.2.2.2 + k) :: st) X (fd_mx h hm) cells slots := fr_iast hd hk hs hin (by rw [fd_mx_xui hx, ← e]; exact kk)
theorem vx_last {k n : Nat} {i : Int32} {x : Int64} {rf : Nat → Option Nat} (hd : decode M.2.1 pc = .ok (.lastore, 1)) (hk : k < X.1) (hx : k < 73) (hs : X.2 k = .inl (1, n, rf)) (hin : fd_in i n = true) (e : h' = fd_ul h k i.toNatClampNeg (x)) (kk : fd_A g M E R Q (pc + 1) lv st X (fd_mx h' hm) cells slots) : fd_A g M E R Q pc lv (.long (x) :: .int i :: .ref (g.2.2.2 + k) :: st) X (fd_mx h hm) cells slots := fr_last hd hk hs hin (by rw [fd_mx_xul hx, ← e]; exact kk)
theorem vx_zast {k n : Nat} {i : Int32} {x : Bool} {rf : Nat → Option Nat} (hd : decode M.2.1 pc = .ok (.bastore, 1)) (hk : k < X.1) (hx : k < 73) (hs : X.2 k = .inl (2, n, rf)) (hin : fd_in i n = true) (e : h' = fd_ui h k i.toNatClampNeg (fd_b x)) (kk : fd_A g M E R Q (pc + 1) lv st X (fd_mx h' hm) cells slots) : fd_A g M E R Q pc lv (.int (fd_b x) :: .int i :: .ref (g.2.2.2 + k) :: st) X (fd_mx h hm) cells slots := fr_zast hd hk hs hin (by rw [fd_mx_xui hx, ← e]; exact kk)
theorem vx_iretW {x : Int32} {r : Int32 × fd_H} (hd : decode M.2.1 pc = .ok (.ireturn, 1)) (hr : M.2.2.2 = some .int) (hf : some (x, h) = some r) : fd_A g M E R (fd_Q g (some (.int r.1)) X (fd_mx r.2 hm) cells slots) pc lv [.int x] X (fd_mx h hm) cells slots := by
  cases hf
  exact fr_iret (X' := X) (h' := h) hd hr
theorem vx_zretW {x : Bool} {r : Bool × fd_H} (hd : decode M.2.1 pc = .ok (.ireturn, 1)) (hr : M.2.2.2 = some .boolean) (hf : some (x, h) = some r) : fd_A g M E R (fd_Q g (some (.int (fd_b r.1))) X (fd_mx r.2 hm) cells slots) pc lv [.int (fd_b x)] X (fd_mx h hm) cells slots := by
  cases hf
  exact fr_zret (X' := X) (h' := h) hd hr
theorem vx_lretW {x : Int64} {r : Int64 × fd_H} (hd : decode M.2.1 pc = .ok (.lreturn, 1)) (hr : M.2.2.2 = some .long) (hf : some (x, h) = some r) : fd_A g M E R (fd_Q g (some (.long r.1)) X (fd_mx r.2 hm) cells slots) pc lv [.long x] X (fd_mx h hm) cells slots := by
  cases hf
  exact fr_lret (X' := X) (h' := h) hd hr
theorem vx_vretW {r : fd_H} (hd : decode M.2.1 pc = .ok (.return_, 1)) (hr : M.2.2.2 = none) (hf : some h = some r) : fd_A g M E R (fd_Q g none X (fd_mx r hm) cells slots) pc lv [] X (fd_mx h hm) cells slots := by
  cases hf
  exact fr_vret (X' := X) (h' := h) hd hr
theorem vm_getI {k ci j idx : Nat} {fs : List fd_F} (hd : decode M.2.1 pc = .ok (.getfield idx, 3)) (hf : fd_FL M.1.cls idx ci j) (hk : k < X.1) (hx : 73 ≤ k) (hs : X.2 k = .inr (ci, fs)) (hv : fs[j]? = some (some (.inr false))) (kk : fd_A g M E R Q (pc + 3) lv (.int (h.1 k j) :: st) X (fd_mx hm h) cells slots) : fd_A g M E R Q pc lv (.ref (g.2.2.2 + k) :: st) X (fd_mx hm h) cells slots := fr_getI hd hf hk hs hv (by rw [fd_mx_mi hx]; exact kk)
theorem vm_putI {k ci j idx : Nat} {x : Int32} {fs : List fd_F} (hd : decode M.2.1 pc = .ok (.putfield idx, 3)) (hf : fd_FL M.1.cls idx ci j) (hft : fd_FT ci j .int false) (hk : k < X.1) (hx : 73 ≤ k) (hs : X.2 k = .inr (ci, fs)) (hv : fs[j]? = some (some (.inr false))) (e : h' = fd_ui h k j (x)) (kk : fd_A g M E R Q (pc + 3) lv st X (fd_mx hm h') cells slots) : fd_A g M E R Q pc lv (.int (x) :: .ref (g.2.2.2 + k) :: st) X (fd_mx hm h) cells slots := fr_putI false hd hf hft (fun q => by cases q) hk hs hv (by rw [fd_mx_mui hx, ← e]; exact kk)
theorem vm_putZ {k ci j idx : Nat} {x : Bool} {fs : List fd_F} (hd : decode M.2.1 pc = .ok (.putfield idx, 3)) (hf : fd_FL M.1.cls idx ci j) (hft : fd_FT ci j .boolean false) (hk : k < X.1) (hx : 73 ≤ k) (hs : X.2 k = .inr (ci, fs)) (hv : fs[j]? = some (some (.inr false))) (e : h' = fd_ui h k j (fd_b x)) (kk : fd_A g M E R Q (pc + 3) lv st X (fd_mx hm h') cells slots) : fd_A g M E R Q pc lv (.int (fd_b x) :: .ref (g.2.2.2 + k) :: st) X (fd_mx hm h) cells slots := fr_putZ false hd hf hft (fun q => by cases q) hk hs hv (by rw [fd_mx_mui hx, ← e]; exact kk)
theorem vm_iald {k n : Nat} {i : Int32} {rf : Nat → Option Nat} (hd : decode M.2.1 pc = .ok (.iaload, 1)) (hk : k < X.1) (hx : 73 ≤ k) (hs : X.2 k = .inl (0, n, rf)) (hin : fd_in i n = true) (kk : fd_A g M E R Q (pc + 1) lv (.int (h.1 k i.toNatClampNeg) :: st) X (fd_mx hm h) cells slots) : fd_A g M E R Q pc lv (.int i :: .ref (g.2.2.2 + k) :: st) X (fd_mx hm h) cells slots := fr_iald hd hk hs hin (by rw [fd_mx_mi hx]; exact kk)
theorem vm_lald {k n : Nat} {i : Int32} {rf : Nat → Option Nat} (hd : decode M.2.1 pc = .ok (.laload, 1)) (hk : k < X.1) (hx : 73 ≤ k) (hs : X.2 k = .inl (1, n, rf)) (hin : fd_in i n = true) (kk : fd_A g M E R Q (pc + 1) lv (.long (h.2 k i.toNatClampNeg) :: st) X (fd_mx hm h) cells slots) : fd_A g M E R Q pc lv (.int i :: .ref (g.2.2.2 + k) :: st) X (fd_mx hm h) cells slots := fr_lald hd hk hs hin (by rw [fd_mx_ml hx]; exact kk)
theorem vm_zald {k n : Nat} {i : Int32} {rf : Nat → Option Nat} (hd : decode M.2.1 pc = .ok (.baload, 1)) (hk : k < X.1) (hx : 73 ≤ k) (hs : X.2 k = .inl (2, n, rf)) (hin : fd_in i n = true) (kk : fd_A g M E R Q (pc + 1) lv (.int (h.1 k i.toNatClampNeg) :: st) X (fd_mx hm h) cells slots) : fd_A g M E R Q pc lv (.int i :: .ref (g.2.2.2 + k) :: st) X (fd_mx hm h) cells slots := fr_zald hd hk hs hin (by rw [fd_mx_mi hx]; exact kk)
theorem vm_iast {k n : Nat} {i : Int32} {x : Int32} {rf : Nat → Option Nat} (hd : decode M.2.1 pc = .ok (.iastore, 1)) (hk : k < X.1) (hx : 73 ≤ k) (hs : X.2 k = .inl (0, n, rf)) (hin : fd_in i n = true) (e : h' = fd_ui h k i.toNatClampNeg (x)) (kk : fd_A g M E R Q (pc + 1) lv st X (fd_mx hm h') cells slots) : fd_A g M E R Q pc lv (.int (x) :: .int i :: .ref (g.2.2.2 + k) :: st) X (fd_mx hm h) cells slots := fr_iast hd hk hs hin (by rw [fd_mx_mui hx, ← e]; exact kk)
theorem vm_zast {k n : Nat} {i : Int32} {x : Bool} {rf : Nat → Option Nat} (hd : decode M.2.1 pc = .ok (.bastore, 1)) (hk : k < X.1) (hx : 73 ≤ k) (hs : X.2 k = .inl (2, n, rf)) (hin : fd_in i n = true) (e : h' = fd_ui h k i.toNatClampNeg (fd_b x)) (kk : fd_A g M E R Q (pc + 1) lv st X (fd_mx hm h') cells slots) : fd_A g M E R Q pc lv (.int (fd_b x) :: .int i :: .ref (g.2.2.2 + k) :: st) X (fd_mx hm h) cells slots := fr_zast hd hk hs hin (by rw [fd_mx_mui hx, ← e]; exact kk)
theorem vm_iretW {x : Int32} {r : Int32 × fd_H} (hd : decode M.2.1 pc = .ok (.ireturn, 1)) (hr : M.2.2.2 = some .int) (hf : some (x, h) = some r) : fd_A g M E R (fd_Q g (some (.int r.1)) X (fd_mx hm r.2) cells slots) pc lv [.int x] X (fd_mx hm h) cells slots := by
  cases hf
  exact fr_iret (X' := X) (h' := h) hd hr
theorem vm_zretW {x : Bool} {r : Bool × fd_H} (hd : decode M.2.1 pc = .ok (.ireturn, 1)) (hr : M.2.2.2 = some .boolean) (hf : some (x, h) = some r) : fd_A g M E R (fd_Q g (some (.int (fd_b r.1))) X (fd_mx hm r.2) cells slots) pc lv [.int (fd_b x)] X (fd_mx hm h) cells slots := by
  cases hf
  exact fr_zret (X' := X) (h' := h) hd hr
theorem vm_lretW {x : Int64} {r : Int64 × fd_H} (hd : decode M.2.1 pc = .ok (.lreturn, 1)) (hr : M.2.2.2 = some .long) (hf : some (x, h) = some r) : fd_A g M E R (fd_Q g (some (.long r.1)) X (fd_mx hm r.2) cells slots) pc lv [.long x] X (fd_mx hm h) cells slots := by
  cases hf
  exact fr_lret (X' := X) (h' := h) hd hr
theorem vm_vretW {r : fd_H} (hd : decode M.2.1 pc = .ok (.return_, 1)) (hr : M.2.2.2 = none) (hf : some h = some r) : fd_A g M E R (fd_Q g none X (fd_mx hm r) cells slots) pc lv [] X (fd_mx hm h) cells slots := by
  cases hf
  exact fr_vret (X' := X) (h' := h) hd hr
theorem fr_iretP {x r : Int32} (hd : decode M.2.1 pc = .ok (.ireturn, 1)) (hr : M.2.2.2 = some .int) (hf : some x = some r) : fd_A g M E R (fd_Q g (some (.int r)) X h cells slots) pc lv [.int x] X h cells slots := by
  cases hf
  exact fr_iret (X' := X) (h' := h) hd hr
theorem fr_zretP {x r : Bool} (hd : decode M.2.1 pc = .ok (.ireturn, 1)) (hr : M.2.2.2 = some .boolean) (hf : some x = some r) : fd_A g M E R (fd_Q g (some (.int (fd_b r))) X h cells slots) pc lv [.int (fd_b x)] X h cells slots := by
  cases hf
  exact fr_zret (X' := X) (h' := h) hd hr
theorem fr_lretP {x r : Int64} (hd : decode M.2.1 pc = .ok (.lreturn, 1)) (hr : M.2.2.2 = some .long) (hf : some x = some r) : fd_A g M E R (fd_Q g (some (.long r)) X h cells slots) pc lv [.long x] X h cells slots := by
  cases hf
  exact fr_lret (X' := X) (h' := h) hd hr
theorem fr_callSi {Mc : fd_M} {d n idx : Nat} {av rest : List Value} {x : Int32} (hd : decode M.2.1 pc = .ok (.invokestatic idx, 3)) (hy : fd_YS Mc n) (hw : Cond.methodLink M.1.cls idx Mc.1 ∈ fd_gt) (hn : av.length = n) (hst : st = av.reverse ++ rest) (hc8 : (rest.map fun v => v.category).sum ≤ 8) (hR : d + 1 ≤ R.frames ∧ 19 + Mc.2.2.1 + 40 * d ≤ R.locals ∧ cells ≤ R.cells ∧ slots ≤ R.slots) (hS0 : fd_S g Mc d av X h (some (.int x)) X h' 0 0) (kk : fd_A g M E R Q (pc + 3) lv (.int x :: rest) X h' cells slots) : fd_A g M E R Q pc lv st X h cells slots := fr_callS hd hy hw hn hst hc8 hR hS0 kk
theorem fr_callSNi {Mc : fd_M} {d n idx : Nat} {av rest : List Value} {x : Int32} (hd : decode M.2.1 pc = .ok (.invokestatic idx, 3)) (hy : fd_YS Mc n) (hw : (M.1.cls, idx, Mc.1, "FrostDebts") ∈ fd_nest) (hn : av.length = n) (hst : st = av.reverse ++ rest) (hc8 : (rest.map fun v => v.category).sum ≤ 8) (hR : d + 1 ≤ R.frames ∧ 19 + Mc.2.2.1 + 40 * d ≤ R.locals ∧ cells ≤ R.cells ∧ slots ≤ R.slots) (hS0 : fd_S g Mc d av X h (some (.int x)) X h' 0 0) (kk : fd_A g M E R Q (pc + 3) lv (.int x :: rest) X h' cells slots) : fd_A g M E R Q pc lv st X h cells slots := fr_callSN hd hy hw hn hst hc8 hR hS0 kk
theorem fr_callVi {Mc : fd_M} {d n idx k ci : Nat} {fs : List fd_F} {av rest : List Value} {x : Int32} (hd : decode M.2.1 pc = .ok (.invokevirtual idx, 3)) (hy : fd_YV Mc n) (hw : Cond.methodLink M.1.cls idx Mc.1 ∈ fd_gt) (hk : k < X.1) (hs : X.2 k = .inr (ci, fs)) (hcl : (vwCl[ci]?).map (fun q => q.1) = some Mc.1.cls) (hn : av.length = n) (hst : st = av.reverse ++ .ref (g.2.2.2 + k) :: rest) (hc8 : (rest.map fun v => v.category).sum ≤ 8) (hR : d + 1 ≤ R.frames ∧ 19 + Mc.2.2.1 + 40 * d ≤ R.locals ∧ cells ≤ R.cells ∧ slots ≤ R.slots) (hS0 : fd_S g Mc d (.ref (g.2.2.2 + k) :: av) X h (some (.int x)) X h' 0 0) (kk : fd_A g M E R Q (pc + 3) lv (.int x :: rest) X h' cells slots) : fd_A g M E R Q pc lv st X h cells slots := fr_callV hd hy hw hk hs hcl hn hst hc8 hR hS0 kk
theorem fr_callSz {Mc : fd_M} {d n idx : Nat} {av rest : List Value} {x : Bool} (hd : decode M.2.1 pc = .ok (.invokestatic idx, 3)) (hy : fd_YS Mc n) (hw : Cond.methodLink M.1.cls idx Mc.1 ∈ fd_gt) (hn : av.length = n) (hst : st = av.reverse ++ rest) (hc8 : (rest.map fun v => v.category).sum ≤ 8) (hR : d + 1 ≤ R.frames ∧ 19 + Mc.2.2.1 + 40 * d ≤ R.locals ∧ cells ≤ R.cells ∧ slots ≤ R.slots) (hS0 : fd_S g Mc d av X h (some (.int (fd_b x))) X h' 0 0) (kk : fd_A g M E R Q (pc + 3) lv (.int (fd_b x) :: rest) X h' cells slots) : fd_A g M E R Q pc lv st X h cells slots := fr_callS hd hy hw hn hst hc8 hR hS0 kk
theorem fr_callSNz {Mc : fd_M} {d n idx : Nat} {av rest : List Value} {x : Bool} (hd : decode M.2.1 pc = .ok (.invokestatic idx, 3)) (hy : fd_YS Mc n) (hw : (M.1.cls, idx, Mc.1, "FrostDebts") ∈ fd_nest) (hn : av.length = n) (hst : st = av.reverse ++ rest) (hc8 : (rest.map fun v => v.category).sum ≤ 8) (hR : d + 1 ≤ R.frames ∧ 19 + Mc.2.2.1 + 40 * d ≤ R.locals ∧ cells ≤ R.cells ∧ slots ≤ R.slots) (hS0 : fd_S g Mc d av X h (some (.int (fd_b x))) X h' 0 0) (kk : fd_A g M E R Q (pc + 3) lv (.int (fd_b x) :: rest) X h' cells slots) : fd_A g M E R Q pc lv st X h cells slots := fr_callSN hd hy hw hn hst hc8 hR hS0 kk
theorem fr_callVz {Mc : fd_M} {d n idx k ci : Nat} {fs : List fd_F} {av rest : List Value} {x : Bool} (hd : decode M.2.1 pc = .ok (.invokevirtual idx, 3)) (hy : fd_YV Mc n) (hw : Cond.methodLink M.1.cls idx Mc.1 ∈ fd_gt) (hk : k < X.1) (hs : X.2 k = .inr (ci, fs)) (hcl : (vwCl[ci]?).map (fun q => q.1) = some Mc.1.cls) (hn : av.length = n) (hst : st = av.reverse ++ .ref (g.2.2.2 + k) :: rest) (hc8 : (rest.map fun v => v.category).sum ≤ 8) (hR : d + 1 ≤ R.frames ∧ 19 + Mc.2.2.1 + 40 * d ≤ R.locals ∧ cells ≤ R.cells ∧ slots ≤ R.slots) (hS0 : fd_S g Mc d (.ref (g.2.2.2 + k) :: av) X h (some (.int (fd_b x))) X h' 0 0) (kk : fd_A g M E R Q (pc + 3) lv (.int (fd_b x) :: rest) X h' cells slots) : fd_A g M E R Q pc lv st X h cells slots := fr_callV hd hy hw hk hs hcl hn hst hc8 hR hS0 kk
theorem fr_callSl {Mc : fd_M} {d n idx : Nat} {av rest : List Value} {x : Int64} (hd : decode M.2.1 pc = .ok (.invokestatic idx, 3)) (hy : fd_YS Mc n) (hw : Cond.methodLink M.1.cls idx Mc.1 ∈ fd_gt) (hn : av.length = n) (hst : st = av.reverse ++ rest) (hc8 : (rest.map fun v => v.category).sum ≤ 8) (hR : d + 1 ≤ R.frames ∧ 19 + Mc.2.2.1 + 40 * d ≤ R.locals ∧ cells ≤ R.cells ∧ slots ≤ R.slots) (hS0 : fd_S g Mc d av X h (some (.long x)) X h' 0 0) (kk : fd_A g M E R Q (pc + 3) lv (.long x :: rest) X h' cells slots) : fd_A g M E R Q pc lv st X h cells slots := fr_callS hd hy hw hn hst hc8 hR hS0 kk
theorem fr_callSNl {Mc : fd_M} {d n idx : Nat} {av rest : List Value} {x : Int64} (hd : decode M.2.1 pc = .ok (.invokestatic idx, 3)) (hy : fd_YS Mc n) (hw : (M.1.cls, idx, Mc.1, "FrostDebts") ∈ fd_nest) (hn : av.length = n) (hst : st = av.reverse ++ rest) (hc8 : (rest.map fun v => v.category).sum ≤ 8) (hR : d + 1 ≤ R.frames ∧ 19 + Mc.2.2.1 + 40 * d ≤ R.locals ∧ cells ≤ R.cells ∧ slots ≤ R.slots) (hS0 : fd_S g Mc d av X h (some (.long x)) X h' 0 0) (kk : fd_A g M E R Q (pc + 3) lv (.long x :: rest) X h' cells slots) : fd_A g M E R Q pc lv st X h cells slots := fr_callSN hd hy hw hn hst hc8 hR hS0 kk
theorem fr_callVl {Mc : fd_M} {d n idx k ci : Nat} {fs : List fd_F} {av rest : List Value} {x : Int64} (hd : decode M.2.1 pc = .ok (.invokevirtual idx, 3)) (hy : fd_YV Mc n) (hw : Cond.methodLink M.1.cls idx Mc.1 ∈ fd_gt) (hk : k < X.1) (hs : X.2 k = .inr (ci, fs)) (hcl : (vwCl[ci]?).map (fun q => q.1) = some Mc.1.cls) (hn : av.length = n) (hst : st = av.reverse ++ .ref (g.2.2.2 + k) :: rest) (hc8 : (rest.map fun v => v.category).sum ≤ 8) (hR : d + 1 ≤ R.frames ∧ 19 + Mc.2.2.1 + 40 * d ≤ R.locals ∧ cells ≤ R.cells ∧ slots ≤ R.slots) (hS0 : fd_S g Mc d (.ref (g.2.2.2 + k) :: av) X h (some (.long x)) X h' 0 0) (kk : fd_A g M E R Q (pc + 3) lv (.long x :: rest) X h' cells slots) : fd_A g M E R Q pc lv st X h cells slots := fr_callV hd hy hw hk hs hcl hn hst hc8 hR hS0 kk
theorem fr_callSv {Mc : fd_M} {d n idx : Nat} {av rest : List Value} (hd : decode M.2.1 pc = .ok (.invokestatic idx, 3)) (hy : fd_YS Mc n) (hw : Cond.methodLink M.1.cls idx Mc.1 ∈ fd_gt) (hn : av.length = n) (hst : st = av.reverse ++ rest) (hc8 : (rest.map fun v => v.category).sum ≤ 8) (hR : d + 1 ≤ R.frames ∧ 19 + Mc.2.2.1 + 40 * d ≤ R.locals ∧ cells ≤ R.cells ∧ slots ≤ R.slots) (hS0 : fd_S g Mc d av X h none X h' 0 0) (kk : fd_A g M E R Q (pc + 3) lv (rest) X h' cells slots) : fd_A g M E R Q pc lv st X h cells slots := fr_callS hd hy hw hn hst hc8 hR hS0 kk
theorem fr_callSNv {Mc : fd_M} {d n idx : Nat} {av rest : List Value} (hd : decode M.2.1 pc = .ok (.invokestatic idx, 3)) (hy : fd_YS Mc n) (hw : (M.1.cls, idx, Mc.1, "FrostDebts") ∈ fd_nest) (hn : av.length = n) (hst : st = av.reverse ++ rest) (hc8 : (rest.map fun v => v.category).sum ≤ 8) (hR : d + 1 ≤ R.frames ∧ 19 + Mc.2.2.1 + 40 * d ≤ R.locals ∧ cells ≤ R.cells ∧ slots ≤ R.slots) (hS0 : fd_S g Mc d av X h none X h' 0 0) (kk : fd_A g M E R Q (pc + 3) lv (rest) X h' cells slots) : fd_A g M E R Q pc lv st X h cells slots := fr_callSN hd hy hw hn hst hc8 hR hS0 kk
theorem fr_callVv {Mc : fd_M} {d n idx k ci : Nat} {fs : List fd_F} {av rest : List Value} (hd : decode M.2.1 pc = .ok (.invokevirtual idx, 3)) (hy : fd_YV Mc n) (hw : Cond.methodLink M.1.cls idx Mc.1 ∈ fd_gt) (hk : k < X.1) (hs : X.2 k = .inr (ci, fs)) (hcl : (vwCl[ci]?).map (fun q => q.1) = some Mc.1.cls) (hn : av.length = n) (hst : st = av.reverse ++ .ref (g.2.2.2 + k) :: rest) (hc8 : (rest.map fun v => v.category).sum ≤ 8) (hR : d + 1 ≤ R.frames ∧ 19 + Mc.2.2.1 + 40 * d ≤ R.locals ∧ cells ≤ R.cells ∧ slots ≤ R.slots) (hS0 : fd_S g Mc d (.ref (g.2.2.2 + k) :: av) X h none X h' 0 0) (kk : fd_A g M E R Q (pc + 3) lv (rest) X h' cells slots) : fd_A g M E R Q pc lv st X h cells slots := fr_callV hd hy hw hk hs hcl hn hst hc8 hR hS0 kk
end fd_sides

theorem is_2 : fd_isText 2 23 := ⟨rfl, by decide, rfl, rfl⟩
theorem is_3 : fd_isRow 3 23 := ⟨by decide, rfl, rfl⟩
theorem is_5 : fd_isText 5 40 := ⟨rfl, by decide, rfl, rfl⟩
theorem is_6 : fd_isRow 6 40 := ⟨by decide, rfl, rfl⟩
theorem is_8 : fd_isText 8 71 := ⟨rfl, by decide, rfl, rfl⟩
theorem is_9 : fd_isRow 9 71 := ⟨by decide, rfl, rfl⟩
theorem is_13 : fd_isRow 13 8 := ⟨by decide, rfl, rfl⟩
theorem is_15 : fd_isRow 15 8 := ⟨by decide, rfl, rfl⟩
theorem is_17 : fd_isRow 17 8 := ⟨by decide, rfl, rfl⟩
theorem is_19 : fd_isMarks 19 := ⟨rfl, ⟨by decide, rfl, rfl⟩, ⟨by decide, rfl, rfl⟩, by decide, rfl, rfl⟩
theorem is_20 : fd_isRow 20 8 := ⟨by decide, rfl, rfl⟩
theorem is_22 : fd_isRow 22 8 := ⟨by decide, rfl, rfl⟩
theorem is_24 : fd_isRow 24 8 := ⟨by decide, rfl, rfl⟩
theorem is_26 : fd_isMarks 26 := ⟨rfl, ⟨by decide, rfl, rfl⟩, ⟨by decide, rfl, rfl⟩, by decide, rfl, rfl⟩
theorem is_27 : fd_isRow 27 8 := ⟨by decide, rfl, rfl⟩
theorem is_29 : fd_isRow 29 8 := ⟨by decide, rfl, rfl⟩
theorem is_31 : fd_isRow 31 8 := ⟨by decide, rfl, rfl⟩
theorem is_33 : fd_isMarks 33 := ⟨rfl, ⟨by decide, rfl, rfl⟩, ⟨by decide, rfl, rfl⟩, by decide, rfl, rfl⟩
theorem is_34 : fd_isRow 34 8 := ⟨by decide, rfl, rfl⟩
theorem is_36 : fd_isRow 36 8 := ⟨by decide, rfl, rfl⟩
theorem is_38 : fd_isRow 38 8 := ⟨by decide, rfl, rfl⟩
theorem is_40 : fd_isRow 40 40 := ⟨by decide, rfl, rfl⟩
theorem is_42 : fd_isSpans 42 := ⟨by decide, rfl, rfl⟩
theorem is_44 : fd_isSpans 44 := ⟨by decide, rfl, rfl⟩
theorem is_46 : fd_isSpans 46 := ⟨by decide, rfl, rfl⟩
theorem is_49 : fd_isRow 49 45 := ⟨by decide, rfl, rfl⟩
theorem is_51 : fd_isMarks 51 := ⟨rfl, ⟨by decide, rfl, rfl⟩, ⟨by decide, rfl, rfl⟩, by decide, rfl, rfl⟩
theorem is_52 : fd_isRow 52 8 := ⟨by decide, rfl, rfl⟩
theorem is_54 : fd_isRow 54 8 := ⟨by decide, rfl, rfl⟩
theorem is_56 : fd_isRow 56 8 := ⟨by decide, rfl, rfl⟩
theorem is_58 : fd_isSpans 58 := ⟨by decide, rfl, rfl⟩
theorem is_61 : fd_isSheet 61 := ⟨rfl, by decide, rfl, rfl⟩
theorem is_62 : fd_isRow 62 48 := ⟨by decide, rfl, rfl⟩
theorem is_64 : fd_isSheet 64 := ⟨rfl, by decide, rfl, rfl⟩
theorem is_65 : fd_isRow 65 48 := ⟨by decide, rfl, rfl⟩
theorem is_67 : fd_isSheet 67 := ⟨rfl, by decide, rfl, rfl⟩
theorem is_68 : fd_isRow 68 48 := ⟨by decide, rfl, rfl⟩
theorem is_70 : fd_isSheet 70 := ⟨rfl, by decide, rfl, rfl⟩
theorem is_71 : fd_isRow 71 48 := ⟨by decide, rfl, rfl⟩
abbrev mX0_init : fd_M := (yX0_init, cX0_init, 1, none)
abbrev mX0_parse : fd_M := (yX0_parse, cX0_parse, 5, none)
abbrev mX0_twoFigures : fd_M := (yX0_twoFigures, cX0_twoFigures, 2, (some .int))
abbrev mX0_note : fd_M := (yX0_note, cX0_note, 4, none)
abbrev mX0_fact : fd_M := (yX0_fact, cX0_fact, 3, (some .int))
abbrev mX1_init : fd_M := (yX1_init, cX1_init, 1, none)
abbrev mX1_add : fd_M := (yX1_add, cX1_add, 4, (some .boolean))
abbrev mX1_nightsAt : fd_M := (yX1_nightsAt, cX1_nightsAt, 6, (some .long))
abbrev mX2_init : fd_M := (yX2_init, cX2_init, 1, none)
abbrev mX2_parse : fd_M := (yX2_parse, cX2_parse, 4, none)
abbrev mX2_liftOf : fd_M := (yX2_liftOf, cX2_liftOf, 1, (some .int))
abbrev mX2_has : fd_M := (yX2_has, cX2_has, 2, (some .boolean))
abbrev mX3_init : fd_M := (yX3_init, cX3_init, 2, none)
abbrev mX3_at : fd_M := (yX3_at, cX3_at, 2, (some .int))
abbrev mX3_set : fd_M := (yX3_set, cX3_set, 3, none)
abbrev mX4_init : fd_M := (yX4_init, cX4_init, 1, none)
abbrev mX4_renew : fd_M := (yX4_renew, cX4_renew, 4, none)
abbrev mX4_store : fd_M := (yX4_store, cX4_store, 3, none)
abbrev mX4_findingAt : fd_M := (yX4_findingAt, cX4_findingAt, 3, (some .int))
abbrev mX4_hasRange : fd_M := (yX4_hasRange, cX4_hasRange, 3, (some .boolean))
abbrev mX4_take : fd_M := (yX4_take, cX4_take, 7, none)
abbrev mX5_init : fd_M := (yX5_init, cX5_init, 1, none)
abbrev mX5_at : fd_M := (yX5_at, cX5_at, 2, (some .long))
abbrev mX5_set : fd_M := (yX5_set, cX5_set, 4, none)
abbrev mX5_isBy : fd_M := (yX5_isBy, cX5_isBy, 3, (some .boolean))
abbrev mX5_firstOf : fd_M := (yX5_firstOf, cX5_firstOf, 2, (some .int))
abbrev mX6_init : fd_M := (yX6_init, cX6_init, 2, none)
abbrev mX6_add : fd_M := (yX6_add, cX6_add, 2, (some .boolean))
abbrev mX7_init : fd_M := (yX7_init, cX7_init, 1, none)
abbrev mX7_parse : fd_M := (yX7_parse, cX7_parse, 4, none)
abbrev mX7_settle : fd_M := (yX7_settle, cX7_settle, 2, none)
abbrev mX7_isCold : fd_M := (yX7_isCold, cX7_isCold, 5, (some .boolean))
abbrev mX7_frostNights : fd_M := (yX7_frostNights, cX7_frostNights, 9, (some .long))
abbrev mX7_frostsWithout : fd_M := (yX7_frostsWithout, cX7_frostsWithout, 3, (some .long))
abbrev mX7_frostsIfWarm : fd_M := (yX7_frostsIfWarm, cX7_frostsIfWarm, 8, (some .long))
abbrev mX8_init : fd_M := (yX8_init, cX8_init, 1, none)
abbrev mX8_type : fd_M := (yX8_type, cX8_type, 3, (some .int))
abbrev mX8_wipe : fd_M := (yX8_wipe, cX8_wipe, 3, (some .int))
abbrev mX8_undo : fd_M := (yX8_undo, cX8_undo, 2, (some .int))
abbrev mX8_fault : fd_M := (yX8_fault, cX8_fault, 2, (some .int))
abbrev mX8_place : fd_M := (yX8_place, cX8_place, 3, (some .int))
abbrev mX8_warm : fd_M := (yX8_warm, cX8_warm, 2, (some .int))
abbrev mX8_debt : fd_M := (yX8_debt, cX8_debt, 3, (some .int))
abbrev mX8_zero : fd_M := (yX8_zero, cX8_zero, 3, (some .int))
abbrev mX8_cloud : fd_M := (yX8_cloud, cX8_cloud, 2, (some .int))
abbrev mX8_smoke : fd_M := (yX8_smoke, cX8_smoke, 3, (some .int))
abbrev mX8_ice : fd_M := (yX8_ice, cX8_ice, 3, (some .int))
abbrev mX8_back : fd_M := (yX8_back, cX8_back, 3, (some .int))
abbrev mX8_warmth : fd_M := (yX8_warmth, cX8_warmth, 3, (some .int))
abbrev mX8_freezes : fd_M := (yX8_freezes, cX8_freezes, 3, (some .int))
abbrev mX8_first : fd_M := (yX8_first, cX8_first, 2, (some .int))
abbrev mX8_had : fd_M := (yX8_had, cX8_had, 4, (some .int))
abbrev mX8_stands : fd_M := (yX8_stands, cX8_stands, 3, (some .int))
abbrev mX8_lasts : fd_M := (yX8_lasts, cX8_lasts, 3, (some .int))
abbrev mX8_never : fd_M := (yX8_never, cX8_never, 3, (some .int))
abbrev mX8_owes : fd_M := (yX8_owes, cX8_owes, 4, (some .int))
abbrev mX8_hangs : fd_M := (yX8_hangs, cX8_hangs, 4, (some .int))
abbrev mX8_free : fd_M := (yX8_free, cX8_free, 6, (some .int))
abbrev mX8_where : fd_M := (yX8_where, cX8_where, 8, (some .int))
abbrev mX8_keep : fd_M := (yX8_keep, cX8_keep, 4, (some .int))
abbrev mX8_carry : fd_M := (yX8_carry, cX8_carry, 7, (some .int))
abbrev mX8_seen : fd_M := (yX8_seen, cX8_seen, 4, (some .int))
abbrev mX8_forget : fd_M := (yX8_forget, cX8_forget, 2, (some .int))
abbrev mX8_read : fd_M := (yX8_read, cX8_read, 5, (some .int))
abbrev mX8_was : fd_M := (yX8_was, cX8_was, 5, (some .int))
abbrev mX8_carried : fd_M := (yX8_carried, cX8_carried, 4, (some .int))
abbrev mX8_ask : fd_M := (yX8_ask, cX8_ask, 7, (some .int))
abbrev mX8_chance : fd_M := (yX8_chance, cX8_chance, 6, (some .long))
abbrev mX8_year : fd_M := (yX8_year, cX8_year, 7, (some .int))
abbrev mX8_sheet : fd_M := (yX8_sheet, cX8_sheet, 4, (some .int))
abbrev mX8_lose : fd_M := (yX8_lose, cX8_lose, 2, (some .int))
abbrev mX8_put : fd_M := (yX8_put, cX8_put, 6, (some .int))
abbrev mX8_get : fd_M := (yX8_get, cX8_get, 5, (some .int))
abbrev mX8_copy : fd_M := (yX8_copy, cX8_copy, 8, (some .int))
abbrev mX8_write : fd_M := (yX8_write, cX8_write, 6, (some .int))
abbrev mX8_count : fd_M := (yX8_count, cX8_count, 2, (some .int))
abbrev mX8_digest : fd_M := (yX8_digest, cX8_digest, 4, (some .long))
abbrev mX8_isBelow : fd_M := (yX8_isBelow, cX8_isBelow, 2, (some .boolean))
abbrev mX8_isChoice : fd_M := (yX8_isChoice, cX8_isChoice, 2, (some .boolean))
abbrev mX8_faultOf : fd_M := (yX8_faultOf, cX8_faultOf, 3, (some .int))
abbrev mX8_fits : fd_M := (yX8_fits, cX8_fits, 4, (some .boolean))
abbrev mX8_fitsPlace : fd_M := (yX8_fitsPlace, cX8_fitsPlace, 2, (some .boolean))
abbrev mX8_fitsDebt : fd_M := (yX8_fitsDebt, cX8_fitsDebt, 3, (some .boolean))
abbrev mX8_isEnded : fd_M := (yX8_isEnded, cX8_isEnded, 3, (some .boolean))
abbrev mX8_isFigure : fd_M := (yX8_isFigure, cX8_isFigure, 2, (some .boolean))
abbrev mX8_kindOf : fd_M := (yX8_kindOf, cX8_kindOf, 1, (some .int))
abbrev mX8_parse : fd_M := (yX8_parse, cX8_parse, 4, none)
abbrev mX8_addMark : fd_M := (yX8_addMark, cX8_addMark, 4, (some .int))
abbrev mX8_cloudsBySeed : fd_M := (yX8_cloudsBySeed, cX8_cloudsBySeed, 6, (some .long))
abbrev mX8_hasBit : fd_M := (yX8_hasBit, cX8_hasBit, 3, (some .boolean))
abbrev mX8_bitsBelow : fd_M := (yX8_bitsBelow, cX8_bitsBelow, 1, (some .long))
abbrev mX8_bitsUpTo : fd_M := (yX8_bitsUpTo, cX8_bitsUpTo, 1, (some .long))
abbrev mX8_countOrItem : fd_M := (yX8_countOrItem, cX8_countOrItem, 5, (some .int))
abbrev mX8_isStanding : fd_M := (yX8_isStanding, cX8_isStanding, 5, (some .boolean))
abbrev mX8_nightsStood : fd_M := (yX8_nightsStood, cX8_nightsStood, 5, (some .int))
abbrev mX8_isNothing : fd_M := (yX8_isNothing, cX8_isNothing, 4, (some .boolean))
abbrev mX8_sumOf : fd_M := (yX8_sumOf, cX8_sumOf, 6, (some .int))
abbrev mX8_sumOfAll : fd_M := (yX8_sumOfAll, cX8_sumOfAll, 4, (some .int))
abbrev mX8_isAsSeen : fd_M := (yX8_isAsSeen, cX8_isAsSeen, 5, (some .boolean))
abbrev mX8_leftAtWorst : fd_M := (yX8_leftAtWorst, cX8_leftAtWorst, 7, (some .int))
abbrev mX8_power : fd_M := (yX8_power, cX8_power, 5, (some .long))
abbrev mX8_lowestTerm : fd_M := (yX8_lowestTerm, cX8_lowestTerm, 10, (some .long))
abbrev mX8_find : fd_M := (yX8_find, cX8_find, 2, (some .int))
abbrev mX8_mix : fd_M := (yX8_mix, cX8_mix, 4, (some .long))
abbrev mX8_mixPlace : fd_M := (yX8_mixPlace, cX8_mixPlace, 6, (some .long))
abbrev mX8_mixDebt : fd_M := (yX8_mixDebt, cX8_mixDebt, 7, (some .long))
abbrev mX8_mixPerson : fd_M := (yX8_mixPerson, cX8_mixPerson, 6, (some .long))
abbrev mX8_mixNight : fd_M := (yX8_mixNight, cX8_mixNight, 4, (some .long))
abbrev mX9_init : fd_M := (yX9_init, cX9_init, 1, none)
abbrev mX9_in : fd_M := (yX9_in, cX9_in, 3, (some .boolean))
abbrev mX9_isIn : fd_M := (yX9_isIn, cX9_isIn, 2, (some .boolean))
abbrev mX9_no : fd_M := (yX9_no, cX9_no, 1, (some .long))
abbrev mX9_lowest : fd_M := (yX9_lowest, cX9_lowest, 11, (some .long))
abbrev mX9_isText : fd_M := (yX9_isText, cX9_isText, 1, (some .boolean))
abbrev mX9_isForty : fd_M := (yX9_isForty, cX9_isForty, 1, (some .boolean))
abbrev mX9_isEight : fd_M := (yX9_isEight, cX9_isEight, 1, (some .boolean))
abbrev mX9_type : fd_M := (yX9_type, cX9_type, 3, (some .int))
abbrev mX9_wipe : fd_M := (yX9_wipe, cX9_wipe, 3, (some .int))
abbrev mX9_undo : fd_M := (yX9_undo, cX9_undo, 2, (some .int))
abbrev mX9_byteAt : fd_M := (yX9_byteAt, cX9_byteAt, 3, (some .int))
abbrev mX9_readsPlace : fd_M := (yX9_readsPlace, cX9_readsPlace, 6, (some .int))
abbrev mX9_isWell : fd_M := (yX9_isWell, cX9_isWell, 4, (some .boolean))
abbrev mX9_readsDebt : fd_M := (yX9_readsDebt, cX9_readsDebt, 4, (some .int))
abbrev mX9_readsParts : fd_M := (yX9_readsParts, cX9_readsParts, 7, (some .int))
abbrev mX9_readsNights : fd_M := (yX9_readsNights, cX9_readsNights, 3, (some .int))
abbrev mX9_faultOf : fd_M := (yX9_faultOf, cX9_faultOf, 5, (some .int))
abbrev mX9_reads : fd_M := (yX9_reads, cX9_reads, 2, none)
abbrev mX9_fault : fd_M := (yX9_fault, cX9_fault, 2, (some .int))
abbrev mX9_isPlace : fd_M := (yX9_isPlace, cX9_isPlace, 2, (some .boolean))
abbrev mX9_isNight : fd_M := (yX9_isNight, cX9_isNight, 2, (some .boolean))
abbrev mX9_isDebt : fd_M := (yX9_isDebt, cX9_isDebt, 2, (some .boolean))
abbrev mX9_place : fd_M := (yX9_place, cX9_place, 3, (some .int))
abbrev mX9_warm : fd_M := (yX9_warm, cX9_warm, 2, (some .int))
abbrev mX9_debtOf : fd_M := (yX9_debtOf, cX9_debtOf, 3, (some .int))
abbrev mX9_debt : fd_M := (yX9_debt, cX9_debt, 3, (some .int))
abbrev mX9_zero : fd_M := (yX9_zero, cX9_zero, 3, (some .int))
abbrev mX9_more : fd_M := (yX9_more, cX9_more, 4, (some .int))
abbrev mX9_cloud : fd_M := (yX9_cloud, cX9_cloud, 2, (some .int))
abbrev mX9_smoke : fd_M := (yX9_smoke, cX9_smoke, 3, (some .int))
abbrev mX9_ice : fd_M := (yX9_ice, cX9_ice, 3, (some .int))
abbrev mX9_back : fd_M := (yX9_back, cX9_back, 2, (some .int))
abbrev mX9_asTold : fd_M := (yX9_asTold, cX9_asTold, 2, none)
abbrev mX9_isTold : fd_M := (yX9_isTold, cX9_isTold, 6, (some .boolean))
abbrev mX9_warmthBy : fd_M := (yX9_warmthBy, cX9_warmthBy, 4, (some .int))
abbrev mX9_isCold : fd_M := (yX9_isCold, cX9_isCold, 4, (some .boolean))
abbrev mX9_lays : fd_M := (yX9_lays, cX9_lays, 4, none)
abbrev mX9_laysTold : fd_M := (yX9_laysTold, cX9_laysTold, 1, none)
abbrev mX9_warmthOf : fd_M := (yX9_warmthOf, cX9_warmthOf, 3, (some .int))
abbrev mX9_warmth : fd_M := (yX9_warmth, cX9_warmth, 3, (some .int))
abbrev mX9_freezesOf : fd_M := (yX9_freezesOf, cX9_freezesOf, 3, (some .int))
abbrev mX9_freezes : fd_M := (yX9_freezes, cX9_freezes, 3, (some .int))
abbrev mX9_firstOf : fd_M := (yX9_firstOf, cX9_firstOf, 2, (some .int))
abbrev mX9_first : fd_M := (yX9_first, cX9_first, 2, (some .int))
abbrev mX9_hasHad : fd_M := (yX9_hasHad, cX9_hasHad, 3, (some .boolean))
abbrev mX9_hadOf : fd_M := (yX9_hadOf, cX9_hadOf, 4, (some .int))
abbrev mX9_had : fd_M := (yX9_had, cX9_had, 2, (some .int))
abbrev mX9_isStanding : fd_M := (yX9_isStanding, cX9_isStanding, 4, (some .boolean))
abbrev mX9_standsOf : fd_M := (yX9_standsOf, cX9_standsOf, 3, (some .int))
abbrev mX9_stands : fd_M := (yX9_stands, cX9_stands, 3, (some .int))
abbrev mX9_standsFor : fd_M := (yX9_standsFor, cX9_standsFor, 5, (some .int))
abbrev mX9_lastsOf : fd_M := (yX9_lastsOf, cX9_lastsOf, 5, (some .int))
abbrev mX9_lasts : fd_M := (yX9_lasts, cX9_lasts, 3, (some .int))
abbrev mX9_neverNow : fd_M := (yX9_neverNow, cX9_neverNow, 3, (some .int))
abbrev mX9_never : fd_M := (yX9_never, cX9_never, 1, (some .int))
abbrev mX9_owesNow : fd_M := (yX9_owesNow, cX9_owesNow, 7, (some .int))
abbrev mX9_owesOf : fd_M := (yX9_owesOf, cX9_owesOf, 4, (some .int))
abbrev mX9_owes : fd_M := (yX9_owes, cX9_owes, 4, (some .int))
abbrev mX9_hangsOf : fd_M := (yX9_hangsOf, cX9_hangsOf, 4, (some .int))
abbrev mX9_hangs : fd_M := (yX9_hangs, cX9_hangs, 2, (some .int))
abbrev mX9_freeOf : fd_M := (yX9_freeOf, cX9_freeOf, 6, (some .int))
abbrev mX9_free : fd_M := (yX9_free, cX9_free, 3, (some .int))
abbrev mX9_whereOf : fd_M := (yX9_whereOf, cX9_whereOf, 9, (some .int))
abbrev mX9_where : fd_M := (yX9_where, cX9_where, 4, (some .int))
abbrev mX9_keepOf : fd_M := (yX9_keepOf, cX9_keepOf, 8, (some .int))
abbrev mX9_keep : fd_M := (yX9_keep, cX9_keep, 4, (some .int))
abbrev mX9_carries : fd_M := (yX9_carries, cX9_carries, 8, (some .boolean))
abbrev mX9_carryBy : fd_M := (yX9_carryBy, cX9_carryBy, 6, (some .int))
abbrev mX9_carryOf : fd_M := (yX9_carryOf, cX9_carryOf, 5, (some .int))
abbrev mX9_carry : fd_M := (yX9_carry, cX9_carry, 4, (some .int))
abbrev mX9_seen : fd_M := (yX9_seen, cX9_seen, 4, (some .int))
abbrev mX9_forget : fd_M := (yX9_forget, cX9_forget, 2, (some .int))
abbrev mX9_read : fd_M := (yX9_read, cX9_read, 3, (some .int))
abbrev mX9_isSeen : fd_M := (yX9_isSeen, cX9_isSeen, 3, (some .boolean))
abbrev mX9_wasOf : fd_M := (yX9_wasOf, cX9_wasOf, 5, (some .int))
abbrev mX9_was : fd_M := (yX9_was, cX9_was, 2, (some .int))
abbrev mX9_carriedNow : fd_M := (yX9_carriedNow, cX9_carriedNow, 3, (some .int))
abbrev mX9_carried : fd_M := (yX9_carried, cX9_carried, 1, (some .int))
abbrev mX9_askOf : fd_M := (yX9_askOf, cX9_askOf, 11, (some .int))
abbrev mX9_ask : fd_M := (yX9_ask, cX9_ask, 2, (some .int))
abbrev mX9_chanceOf : fd_M := (yX9_chanceOf, cX9_chanceOf, 10, (some .long))
abbrev mX9_chance : fd_M := (yX9_chance, cX9_chance, 5, (some .long))
abbrev mX9_yearOf : fd_M := (yX9_yearOf, cX9_yearOf, 6, (some .int))
abbrev mX9_year : fd_M := (yX9_year, cX9_year, 3, (some .int))
abbrev mX9_meets : fd_M := (yX9_meets, cX9_meets, 2, (some .int))
abbrev mX9_isSheet : fd_M := (yX9_isSheet, cX9_isSheet, 1, (some .boolean))
abbrev mX9_sheet : fd_M := (yX9_sheet, cX9_sheet, 5, (some .int))
abbrev mX9_lose : fd_M := (yX9_lose, cX9_lose, 2, (some .int))
abbrev mX9_lacks : fd_M := (yX9_lacks, cX9_lacks, 4, (some .int))
abbrev mX9_keepsItem : fd_M := (yX9_keepsItem, cX9_keepsItem, 4, none)
abbrev mX9_put : fd_M := (yX9_put, cX9_put, 6, (some .int))
abbrev mX9_get : fd_M := (yX9_get, cX9_get, 5, (some .int))
abbrev mX9_copy : fd_M := (yX9_copy, cX9_copy, 7, (some .int))
abbrev mX9_owedBy : fd_M := (yX9_owedBy, cX9_owedBy, 4, (some .int))
abbrev mX9_write : fd_M := (yX9_write, cX9_write, 4, (some .int))
abbrev mX9_partsMany : fd_M := (yX9_partsMany, cX9_partsMany, 2, (some .int))
abbrev mX9_count : fd_M := (yX9_count, cX9_count, 2, (some .int))
abbrev mX9_placeDigest : fd_M := (yX9_placeDigest, cX9_placeDigest, 6, (some .long))
abbrev mX9_debtDigest : fd_M := (yX9_debtDigest, cX9_debtDigest, 7, (some .long))
abbrev mX9_nightDigest : fd_M := (yX9_nightDigest, cX9_nightDigest, 6, (some .long))
abbrev mX9_digest : fd_M := (yX9_digest, cX9_digest, 4, (some .long))
abbrev mJ13_bitCount_95d88 : fd_M := (yJ13_bitCount_95d88, cJ13_bitCount_95d88, 2, (some .int))
abbrev mJ9_max_7cf53 : fd_M := (yJ9_max_7cf53, cJ9_max_7cf53, 2, (some .int))
abbrev mJ9_min_7cf53 : fd_M := (yJ9_min_7cf53, cJ9_min_7cf53, 2, (some .int))
theorem yy_X3_at : fd_YV mX3_at 1 := ⟨⟨kw_48, kw_49, by decide +kernel, by decide +kernel, by decide +kernel⟩, kw_50, kw_51⟩
theorem yy_X3_set : fd_YV mX3_set 2 := ⟨⟨kw_54, kw_49, by decide +kernel, by decide +kernel, by decide +kernel⟩, kw_55, kw_56⟩
theorem yy_J9_min_7cf53 : fd_YS mJ9_min_7cf53 2 := ⟨⟨kw_64, kw_65, by decide +kernel, by decide +kernel, by decide +kernel⟩, kw_66⟩
theorem yy_X8_kindOf : fd_YS mX8_kindOf 1 := ⟨⟨kw_73, kw_74, by decide +kernel, by decide +kernel, by decide +kernel⟩, kw_75⟩
theorem yy_X2_liftOf : fd_YS mX2_liftOf 1 := ⟨⟨kw_77, kw_78, by decide +kernel, by decide +kernel, by decide +kernel⟩, kw_79⟩
theorem yy_X5_at : fd_YV mX5_at 1 := ⟨⟨kw_84, kw_85, by decide +kernel, by decide +kernel, by decide +kernel⟩, kw_86, kw_87⟩
theorem yy_X8_bitsUpTo : fd_YS mX8_bitsUpTo 1 := ⟨⟨kw_89, kw_74, by decide +kernel, by decide +kernel, by decide +kernel⟩, kw_90⟩
theorem yy_X2_has : fd_YV mX2_has 1 := ⟨⟨kw_105, kw_78, by decide +kernel, by decide +kernel, by decide +kernel⟩, kw_106, kw_107⟩
theorem yy_X8_isBelow : fd_YS mX8_isBelow 2 := ⟨⟨kw_109, kw_74, by decide +kernel, by decide +kernel, by decide +kernel⟩, kw_110⟩
theorem yy_X8_hasBit : fd_YS mX8_hasBit 2 := ⟨⟨kw_119, kw_74, by decide +kernel, by decide +kernel, by decide +kernel⟩, kw_120⟩
theorem yy_X8_find : fd_YV mX8_find 1 := ⟨⟨kw_126, kw_74, by decide +kernel, by decide +kernel, by decide +kernel⟩, kw_127, kw_128⟩
theorem yy_X4_findingAt : fd_YV mX4_findingAt 2 := ⟨⟨kw_130, kw_131, by decide +kernel, by decide +kernel, by decide +kernel⟩, kw_132, kw_133⟩
theorem yy_X8_isFigure : fd_YS mX8_isFigure 2 := ⟨⟨kw_138, kw_74, by decide +kernel, by decide +kernel, by decide +kernel⟩, kw_139⟩
theorem yy_J13_bitCount_95d88 : fd_YS mJ13_bitCount_95d88 1 := ⟨⟨kw_141, kw_142, by decide +kernel, by decide +kernel, by decide +kernel⟩, kw_143⟩
theorem yy_X9_in : fd_YS mX9_in 3 := ⟨⟨kw_145, kw_146, by decide +kernel, by decide +kernel, by decide +kernel⟩, kw_147⟩
theorem yy_X9_byteAt : fd_YV mX9_byteAt 2 := ⟨⟨kw_149, kw_146, by decide +kernel, by decide +kernel, by decide +kernel⟩, kw_150, kw_151⟩
theorem yy_X9_warmthBy : fd_YV mX9_warmthBy 2 := ⟨⟨kw_155, kw_146, by decide +kernel, by decide +kernel, by decide +kernel⟩, kw_156, kw_157⟩
theorem yy_X9_isTold : fd_YV mX9_isTold 3 := ⟨⟨kw_159, kw_146, by decide +kernel, by decide +kernel, by decide +kernel⟩, kw_160, kw_161⟩
theorem yy_X9_hasHad : fd_YV mX9_hasHad 2 := ⟨⟨kw_163, kw_146, by decide +kernel, by decide +kernel, by decide +kernel⟩, kw_164, kw_165⟩
theorem yy_X0_note : fd_YV mX0_note 3 := ⟨⟨kw_171, kw_172, by decide +kernel, by decide +kernel, by decide +kernel⟩, kw_173, kw_174⟩
theorem yy_X0_twoFigures : fd_YS mX0_twoFigures 2 := ⟨⟨kw_176, kw_172, by decide +kernel, by decide +kernel, by decide +kernel⟩, kw_177⟩
theorem yy_X8_countOrItem : fd_YS mX8_countOrItem 2 := ⟨⟨kw_179, kw_74, by decide +kernel, by decide +kernel, by decide +kernel⟩, kw_180⟩
theorem yy_X7_isCold : fd_YV mX7_isCold 3 := ⟨⟨kw_184, kw_185, by decide +kernel, by decide +kernel, by decide +kernel⟩, kw_186, kw_187⟩
theorem yy_X0_fact : fd_YV mX0_fact 2 := ⟨⟨kw_192, kw_172, by decide +kernel, by decide +kernel, by decide +kernel⟩, kw_193, kw_194⟩
theorem yy_X5_isBy : fd_YV mX5_isBy 2 := ⟨⟨kw_196, kw_85, by decide +kernel, by decide +kernel, by decide +kernel⟩, kw_197, kw_198⟩
theorem yy_X8_isChoice : fd_YS mX8_isChoice 2 := ⟨⟨kw_200, kw_74, by decide +kernel, by decide +kernel, by decide +kernel⟩, kw_201⟩
theorem yy_X1_add : fd_YV mX1_add 3 := ⟨⟨kw_205, kw_206, by decide +kernel, by decide +kernel, by decide +kernel⟩, kw_207, kw_208⟩
theorem yy_X4_renew : fd_YV mX4_renew 2 := ⟨⟨kw_210, kw_131, by decide +kernel, by decide +kernel, by decide +kernel⟩, kw_211, kw_212⟩
theorem yy_X4_store : fd_YV mX4_store 2 := ⟨⟨kw_214, kw_131, by decide +kernel, by decide +kernel, by decide +kernel⟩, kw_215, kw_216⟩
theorem yy_X4_hasRange : fd_YV mX4_hasRange 2 := ⟨⟨kw_219, kw_131, by decide +kernel, by decide +kernel, by decide +kernel⟩, kw_220, kw_221⟩
theorem yy_X4_take : fd_YV mX4_take 4 := ⟨⟨kw_223, kw_131, by decide +kernel, by decide +kernel, by decide +kernel⟩, kw_224, kw_225⟩
theorem yy_X8_fitsDebt : fd_YS mX8_fitsDebt 3 := ⟨⟨kw_228, kw_74, by decide +kernel, by decide +kernel, by decide +kernel⟩, kw_229⟩
theorem yy_X8_fitsPlace : fd_YS mX8_fitsPlace 2 := ⟨⟨kw_231, kw_74, by decide +kernel, by decide +kernel, by decide +kernel⟩, kw_232⟩
theorem yy_X9_isText : fd_YS mX9_isText 1 := ⟨⟨kw_237, kw_146, by decide +kernel, by decide +kernel, by decide +kernel⟩, kw_238⟩
theorem yy_X9_isWell : fd_YV mX9_isWell 2 := ⟨⟨kw_240, kw_146, by decide +kernel, by decide +kernel, by decide +kernel⟩, kw_241, kw_242⟩
theorem yy_X9_isForty : fd_YS mX9_isForty 1 := ⟨⟨kw_244, kw_146, by decide +kernel, by decide +kernel, by decide +kernel⟩, kw_245⟩
theorem yy_X9_isEight : fd_YS mX9_isEight 1 := ⟨⟨kw_247, kw_146, by decide +kernel, by decide +kernel, by decide +kernel⟩, kw_248⟩
theorem yy_X9_isCold : fd_YV mX9_isCold 2 := ⟨⟨kw_251, kw_146, by decide +kernel, by decide +kernel, by decide +kernel⟩, kw_252, kw_253⟩
theorem yy_X9_isStanding : fd_YV mX9_isStanding 3 := ⟨⟨kw_255, kw_146, by decide +kernel, by decide +kernel, by decide +kernel⟩, kw_256, kw_257⟩
theorem yy_X9_isSheet : fd_YS mX9_isSheet 1 := ⟨⟨kw_263, kw_146, by decide +kernel, by decide +kernel, by decide +kernel⟩, kw_264⟩
theorem yy_X9_meets : fd_YV mX9_meets 1 := ⟨⟨kw_266, kw_146, by decide +kernel, by decide +kernel, by decide +kernel⟩, kw_267, kw_268⟩
theorem yy_X9_lacks : fd_YV mX9_lacks 3 := ⟨⟨kw_270, kw_146, by decide +kernel, by decide +kernel, by decide +kernel⟩, kw_271, kw_272⟩
theorem yy_X9_keepsItem : fd_YV mX9_keepsItem 3 := ⟨⟨kw_274, kw_146, by decide +kernel, by decide +kernel, by decide +kernel⟩, kw_275, kw_276⟩
theorem yy_X1_nightsAt : fd_YV mX1_nightsAt 2 := ⟨⟨kw_281, kw_206, by decide +kernel, by decide +kernel, by decide +kernel⟩, kw_282, kw_283⟩
theorem yy_X5_set : fd_YV mX5_set 2 := ⟨⟨kw_287, kw_85, by decide +kernel, by decide +kernel, by decide +kernel⟩, kw_288, kw_289⟩
theorem yy_X8_bitsBelow : fd_YS mX8_bitsBelow 1 := ⟨⟨kw_292, kw_74, by decide +kernel, by decide +kernel, by decide +kernel⟩, kw_293⟩
theorem yy_X7_frostNights : fd_YV mX7_frostNights 3 := ⟨⟨kw_294, kw_185, by decide +kernel, by decide +kernel, by decide +kernel⟩, kw_295, kw_296⟩
theorem yy_X5_firstOf : fd_YV mX5_firstOf 1 := ⟨⟨kw_298, kw_85, by decide +kernel, by decide +kernel, by decide +kernel⟩, kw_299, kw_300⟩
theorem yy_X8_isStanding : fd_YV mX8_isStanding 3 := ⟨⟨kw_302, kw_74, by decide +kernel, by decide +kernel, by decide +kernel⟩, kw_303, kw_304⟩
theorem yy_X8_seen : fd_YV mX8_seen 3 := ⟨⟨kw_306, kw_74, by decide +kernel, by decide +kernel, by decide +kernel⟩, kw_307, kw_308⟩
theorem yy_X8_isAsSeen : fd_YV mX8_isAsSeen 1 := ⟨⟨kw_311, kw_74, by decide +kernel, by decide +kernel, by decide +kernel⟩, kw_312, kw_313⟩
theorem yy_X7_frostsIfWarm : fd_YV mX7_frostsIfWarm 3 := ⟨⟨kw_315, kw_185, by decide +kernel, by decide +kernel, by decide +kernel⟩, kw_316, kw_317⟩
theorem yy_X8_power : fd_YS mX8_power 2 := ⟨⟨kw_321, kw_74, by decide +kernel, by decide +kernel, by decide +kernel⟩, kw_322⟩
theorem yy_X8_lowestTerm : fd_YS mX8_lowestTerm 3 := ⟨⟨kw_324, kw_74, by decide +kernel, by decide +kernel, by decide +kernel⟩, kw_325⟩
theorem yy_X8_cloudsBySeed : fd_YV mX8_cloudsBySeed 1 := ⟨⟨kw_328, kw_74, by decide +kernel, by decide +kernel, by decide +kernel⟩, kw_329, kw_330⟩
theorem yy_X8_isEnded : fd_YS mX8_isEnded 2 := ⟨⟨kw_332, kw_74, by decide +kernel, by decide +kernel, by decide +kernel⟩, kw_333⟩
theorem yy_X8_fits : fd_YS mX8_fits 3 := ⟨⟨kw_335, kw_74, by decide +kernel, by decide +kernel, by decide +kernel⟩, kw_336⟩
theorem yy_J9_max_7cf53 : fd_YS mJ9_max_7cf53 2 := ⟨⟨kw_338, kw_65, by decide +kernel, by decide +kernel, by decide +kernel⟩, kw_339⟩
theorem yy_X9_readsDebt : fd_YV mX9_readsDebt 2 := ⟨⟨kw_341, kw_146, by decide +kernel, by decide +kernel, by decide +kernel⟩, kw_342, kw_343⟩
theorem yy_X9_readsPlace : fd_YV mX9_readsPlace 2 := ⟨⟨kw_345, kw_146, by decide +kernel, by decide +kernel, by decide +kernel⟩, kw_346, kw_347⟩
theorem yy_X9_more : fd_YV mX9_more 3 := ⟨⟨kw_349, kw_146, by decide +kernel, by decide +kernel, by decide +kernel⟩, kw_350, kw_351⟩
theorem yy_X9_lays : fd_YV mX9_lays 0 := ⟨⟨kw_353, kw_146, by decide +kernel, by decide +kernel, by decide +kernel⟩, kw_354, kw_355⟩
theorem yy_X9_owesNow : fd_YV mX9_owesNow 3 := ⟨⟨kw_358, kw_146, by decide +kernel, by decide +kernel, by decide +kernel⟩, kw_359, kw_360⟩
theorem yy_X9_seen : fd_YV mX9_seen 3 := ⟨⟨kw_362, kw_146, by decide +kernel, by decide +kernel, by decide +kernel⟩, kw_363, kw_364⟩
theorem yy_X8_faultOf : fd_YS mX8_faultOf 2 := ⟨⟨kw_366, kw_74, by decide +kernel, by decide +kernel, by decide +kernel⟩, kw_367⟩
theorem yy_X7_settle : fd_YV mX7_settle 0 := ⟨⟨kw_370, kw_185, by decide +kernel, by decide +kernel, by decide +kernel⟩, kw_371, kw_372⟩
theorem yy_X8_isNothing : fd_YV mX8_isNothing 1 := ⟨⟨kw_374, kw_74, by decide +kernel, by decide +kernel, by decide +kernel⟩, kw_375, kw_376⟩
theorem yy_X8_nightsStood : fd_YV mX8_nightsStood 2 := ⟨⟨kw_378, kw_74, by decide +kernel, by decide +kernel, by decide +kernel⟩, kw_379, kw_380⟩
theorem yy_X8_sumOf : fd_YV mX8_sumOf 3 := ⟨⟨kw_382, kw_74, by decide +kernel, by decide +kernel, by decide +kernel⟩, kw_383, kw_384⟩
theorem yy_X7_frostsWithout : fd_YV mX7_frostsWithout 2 := ⟨⟨kw_386, kw_185, by decide +kernel, by decide +kernel, by decide +kernel⟩, kw_387, kw_388⟩
theorem yy_X8_was : fd_YV mX8_was 1 := ⟨⟨kw_390, kw_74, by decide +kernel, by decide +kernel, by decide +kernel⟩, kw_391, kw_392⟩
theorem yy_X8_leftAtWorst : fd_YV mX8_leftAtWorst 3 := ⟨⟨kw_394, kw_74, by decide +kernel, by decide +kernel, by decide +kernel⟩, kw_395, kw_396⟩
theorem yy_X0_parse : fd_YV mX0_parse 2 := ⟨⟨kw_398, kw_172, by decide +kernel, by decide +kernel, by decide +kernel⟩, kw_399, kw_400⟩
theorem yy_X7_parse : fd_YV mX7_parse 2 := ⟨⟨kw_402, kw_185, by decide +kernel, by decide +kernel, by decide +kernel⟩, kw_403, kw_404⟩
theorem yy_X2_parse : fd_YV mX2_parse 2 := ⟨⟨kw_406, kw_78, by decide +kernel, by decide +kernel, by decide +kernel⟩, kw_407, kw_408⟩
theorem yy_X8_place : fd_YV mX8_place 2 := ⟨⟨kw_410, kw_74, by decide +kernel, by decide +kernel, by decide +kernel⟩, kw_411, kw_412⟩
theorem yy_X8_mix : fd_YS mX8_mix 2 := ⟨⟨kw_414, kw_74, by decide +kernel, by decide +kernel, by decide +kernel⟩, kw_415⟩
theorem yy_X8_warmth : fd_YV mX8_warmth 2 := ⟨⟨kw_417, kw_74, by decide +kernel, by decide +kernel, by decide +kernel⟩, kw_418, kw_419⟩
theorem yy_X8_freezes : fd_YV mX8_freezes 2 := ⟨⟨kw_421, kw_74, by decide +kernel, by decide +kernel, by decide +kernel⟩, kw_422, kw_423⟩
theorem yy_X8_first : fd_YV mX8_first 1 := ⟨⟨kw_425, kw_74, by decide +kernel, by decide +kernel, by decide +kernel⟩, kw_426, kw_427⟩
theorem yy_X8_keep : fd_YV mX8_keep 3 := ⟨⟨kw_429, kw_74, by decide +kernel, by decide +kernel, by decide +kernel⟩, kw_430, kw_431⟩
theorem yy_X8_chance : fd_YV mX8_chance 4 := ⟨⟨kw_433, kw_74, by decide +kernel, by decide +kernel, by decide +kernel⟩, kw_434, kw_435⟩
theorem yy_X8_year : fd_YV mX8_year 2 := ⟨⟨kw_437, kw_74, by decide +kernel, by decide +kernel, by decide +kernel⟩, kw_438, kw_439⟩
theorem yy_X9_readsParts : fd_YV mX9_readsParts 1 := ⟨⟨kw_441, kw_146, by decide +kernel, by decide +kernel, by decide +kernel⟩, kw_442, kw_443⟩
theorem yy_X9_readsNights : fd_YV mX9_readsNights 0 := ⟨⟨kw_445, kw_146, by decide +kernel, by decide +kernel, by decide +kernel⟩, kw_446, kw_447⟩
theorem yy_X6_add : fd_YV mX6_add 1 := ⟨⟨kw_449, kw_450, by decide +kernel, by decide +kernel, by decide +kernel⟩, kw_451, kw_452⟩
theorem yy_X8_parse : fd_YV mX8_parse 1 := ⟨⟨kw_454, kw_74, by decide +kernel, by decide +kernel, by decide +kernel⟩, kw_455, kw_456⟩
theorem yy_X8_addMark : fd_YV mX8_addMark 3 := ⟨⟨kw_458, kw_74, by decide +kernel, by decide +kernel, by decide +kernel⟩, kw_459, kw_460⟩
theorem yy_X8_hangs : fd_YV mX8_hangs 1 := ⟨⟨kw_463, kw_74, by decide +kernel, by decide +kernel, by decide +kernel⟩, kw_464, kw_465⟩
theorem yy_X8_sumOfAll : fd_YV mX8_sumOfAll 1 := ⟨⟨kw_467, kw_74, by decide +kernel, by decide +kernel, by decide +kernel⟩, kw_468, kw_469⟩
theorem yy_X8_lasts : fd_YV mX8_lasts 2 := ⟨⟨kw_471, kw_74, by decide +kernel, by decide +kernel, by decide +kernel⟩, kw_472, kw_473⟩
theorem yy_X8_where : fd_YV mX8_where 3 := ⟨⟨kw_475, kw_74, by decide +kernel, by decide +kernel, by decide +kernel⟩, kw_476, kw_477⟩
theorem yy_X8_debt : fd_YV mX8_debt 2 := ⟨⟨kw_479, kw_74, by decide +kernel, by decide +kernel, by decide +kernel⟩, kw_480, kw_481⟩
theorem yy_X8_owes : fd_YV mX8_owes 3 := ⟨⟨kw_483, kw_74, by decide +kernel, by decide +kernel, by decide +kernel⟩, kw_484, kw_485⟩
theorem yy_X8_free : fd_YV mX8_free 2 := ⟨⟨kw_487, kw_74, by decide +kernel, by decide +kernel, by decide +kernel⟩, kw_488, kw_489⟩
theorem yy_X8_carry : fd_YV mX8_carry 3 := ⟨⟨kw_491, kw_74, by decide +kernel, by decide +kernel, by decide +kernel⟩, kw_492, kw_493⟩
theorem yy_X8_had : fd_YV mX8_had 1 := ⟨⟨kw_495, kw_74, by decide +kernel, by decide +kernel, by decide +kernel⟩, kw_496, kw_497⟩
theorem yy_X8_ask : fd_YV mX8_ask 1 := ⟨⟨kw_499, kw_74, by decide +kernel, by decide +kernel, by decide +kernel⟩, kw_500, kw_501⟩
theorem yy_X9_faultOf : fd_YV mX9_faultOf 1 := ⟨⟨kw_503, kw_146, by decide +kernel, by decide +kernel, by decide +kernel⟩, kw_504, kw_505⟩
theorem yy_X8_count : fd_YV mX8_count 1 := ⟨⟨kw_508, kw_74, by decide +kernel, by decide +kernel, by decide +kernel⟩, kw_509, kw_510⟩
theorem yy_X8_fault : fd_YV mX8_fault 1 := ⟨⟨kw_512, kw_74, by decide +kernel, by decide +kernel, by decide +kernel⟩, kw_513, kw_514⟩
theorem yy_X8_mixPlace : fd_YV mX8_mixPlace 2 := ⟨⟨kw_516, kw_74, by decide +kernel, by decide +kernel, by decide +kernel⟩, kw_517, kw_518⟩
theorem yy_X8_mixDebt : fd_YV mX8_mixDebt 2 := ⟨⟨kw_520, kw_74, by decide +kernel, by decide +kernel, by decide +kernel⟩, kw_521, kw_522⟩
theorem yy_X8_mixNight : fd_YV mX8_mixNight 2 := ⟨⟨kw_524, kw_74, by decide +kernel, by decide +kernel, by decide +kernel⟩, kw_525, kw_526⟩
theorem yy_X8_never : fd_YV mX8_never 0 := ⟨⟨kw_528, kw_74, by decide +kernel, by decide +kernel, by decide +kernel⟩, kw_529, kw_530⟩
theorem yy_X8_carried : fd_YV mX8_carried 0 := ⟨⟨kw_532, kw_74, by decide +kernel, by decide +kernel, by decide +kernel⟩, kw_533, kw_534⟩
theorem yy_X8_mixPerson : fd_YV mX8_mixPerson 2 := ⟨⟨kw_536, kw_74, by decide +kernel, by decide +kernel, by decide +kernel⟩, kw_537, kw_538⟩
theorem yy_X9_reads : fd_YV mX9_reads 0 := ⟨⟨kw_540, kw_146, by decide +kernel, by decide +kernel, by decide +kernel⟩, kw_541, kw_542⟩
theorem yy_X9_isPlace : fd_YV mX9_isPlace 1 := ⟨⟨kw_544, kw_146, by decide +kernel, by decide +kernel, by decide +kernel⟩, kw_545, kw_546⟩
theorem yy_X9_isNight : fd_YV mX9_isNight 1 := ⟨⟨kw_548, kw_146, by decide +kernel, by decide +kernel, by decide +kernel⟩, kw_549, kw_550⟩
theorem yy_X9_isDebt : fd_YV mX9_isDebt 1 := ⟨⟨kw_552, kw_146, by decide +kernel, by decide +kernel, by decide +kernel⟩, kw_553, kw_554⟩
theorem yy_X9_debtOf : fd_YV mX9_debtOf 2 := ⟨⟨kw_556, kw_146, by decide +kernel, by decide +kernel, by decide +kernel⟩, kw_557, kw_558⟩
theorem yy_X9_asTold : fd_YV mX9_asTold 0 := ⟨⟨kw_560, kw_146, by decide +kernel, by decide +kernel, by decide +kernel⟩, kw_561, kw_562⟩
theorem yy_X9_warmthOf : fd_YV mX9_warmthOf 2 := ⟨⟨kw_564, kw_146, by decide +kernel, by decide +kernel, by decide +kernel⟩, kw_565, kw_566⟩
theorem yy_X9_carries : fd_YV mX9_carries 5 := ⟨⟨kw_568, kw_146, by decide +kernel, by decide +kernel, by decide +kernel⟩, kw_569, kw_570⟩
theorem yy_X9_isSeen : fd_YV mX9_isSeen 0 := ⟨⟨kw_572, kw_146, by decide +kernel, by decide +kernel, by decide +kernel⟩, kw_573, kw_574⟩
theorem yy_X9_lowest : fd_YS mX9_lowest 3 := ⟨⟨kw_577, kw_146, by decide +kernel, by decide +kernel, by decide +kernel⟩, kw_578⟩
theorem yy_X9_partsMany : fd_YV mX9_partsMany 1 := ⟨⟨kw_581, kw_146, by decide +kernel, by decide +kernel, by decide +kernel⟩, kw_582, kw_583⟩
theorem yy_X9_freezesOf : fd_YV mX9_freezesOf 2 := ⟨⟨kw_585, kw_146, by decide +kernel, by decide +kernel, by decide +kernel⟩, kw_586, kw_587⟩
theorem yy_X9_laysTold : fd_YV mX9_laysTold 0 := ⟨⟨kw_589, kw_146, by decide +kernel, by decide +kernel, by decide +kernel⟩, kw_590, kw_591⟩
theorem yy_X9_standsFor : fd_YV mX9_standsFor 2 := ⟨⟨kw_593, kw_146, by decide +kernel, by decide +kernel, by decide +kernel⟩, kw_594, kw_595⟩
theorem yy_X9_keepOf : fd_YV mX9_keepOf 3 := ⟨⟨kw_597, kw_146, by decide +kernel, by decide +kernel, by decide +kernel⟩, kw_598, kw_599⟩
theorem yy_X9_carryBy : fd_YV mX9_carryBy 2 := ⟨⟨kw_601, kw_146, by decide +kernel, by decide +kernel, by decide +kernel⟩, kw_602, kw_603⟩
theorem yy_X9_wasOf : fd_YV mX9_wasOf 1 := ⟨⟨kw_605, kw_146, by decide +kernel, by decide +kernel, by decide +kernel⟩, kw_606, kw_607⟩
theorem yy_X9_carriedNow : fd_YV mX9_carriedNow 0 := ⟨⟨kw_609, kw_146, by decide +kernel, by decide +kernel, by decide +kernel⟩, kw_610, kw_611⟩
theorem yy_X9_isIn : fd_YS mX9_isIn 2 := ⟨⟨kw_613, kw_146, by decide +kernel, by decide +kernel, by decide +kernel⟩, kw_614⟩
theorem yy_X9_chanceOf : fd_YV mX9_chanceOf 4 := ⟨⟨kw_616, kw_146, by decide +kernel, by decide +kernel, by decide +kernel⟩, kw_617, kw_618⟩
theorem yy_X9_no : fd_YS mX9_no 1 := ⟨⟨kw_620, kw_146, by decide +kernel, by decide +kernel, by decide +kernel⟩, kw_621⟩
theorem yy_X9_yearOf : fd_YV mX9_yearOf 2 := ⟨⟨kw_623, kw_146, by decide +kernel, by decide +kernel, by decide +kernel⟩, kw_624, kw_625⟩
theorem yy_X9_firstOf : fd_YV mX9_firstOf 1 := ⟨⟨kw_627, kw_146, by decide +kernel, by decide +kernel, by decide +kernel⟩, kw_628, kw_629⟩
theorem yy_X9_hadOf : fd_YV mX9_hadOf 1 := ⟨⟨kw_631, kw_146, by decide +kernel, by decide +kernel, by decide +kernel⟩, kw_632, kw_633⟩
theorem yy_X9_standsOf : fd_YV mX9_standsOf 2 := ⟨⟨kw_635, kw_146, by decide +kernel, by decide +kernel, by decide +kernel⟩, kw_636, kw_637⟩
theorem yy_X9_lastsOf : fd_YV mX9_lastsOf 2 := ⟨⟨kw_639, kw_146, by decide +kernel, by decide +kernel, by decide +kernel⟩, kw_640, kw_641⟩
theorem yy_X9_neverNow : fd_YV mX9_neverNow 0 := ⟨⟨kw_643, kw_146, by decide +kernel, by decide +kernel, by decide +kernel⟩, kw_644, kw_645⟩
theorem yy_X9_owesOf : fd_YV mX9_owesOf 3 := ⟨⟨kw_647, kw_146, by decide +kernel, by decide +kernel, by decide +kernel⟩, kw_648, kw_649⟩
theorem yy_X9_hangsOf : fd_YV mX9_hangsOf 1 := ⟨⟨kw_651, kw_146, by decide +kernel, by decide +kernel, by decide +kernel⟩, kw_652, kw_653⟩
theorem yy_X9_freeOf : fd_YV mX9_freeOf 2 := ⟨⟨kw_655, kw_146, by decide +kernel, by decide +kernel, by decide +kernel⟩, kw_656, kw_657⟩
theorem yy_X9_whereOf : fd_YV mX9_whereOf 3 := ⟨⟨kw_659, kw_146, by decide +kernel, by decide +kernel, by decide +kernel⟩, kw_660, kw_661⟩
theorem yy_X9_carryOf : fd_YV mX9_carryOf 3 := ⟨⟨kw_663, kw_146, by decide +kernel, by decide +kernel, by decide +kernel⟩, kw_664, kw_665⟩
theorem yy_X9_askOf : fd_YV mX9_askOf 1 := ⟨⟨kw_667, kw_146, by decide +kernel, by decide +kernel, by decide +kernel⟩, kw_668, kw_669⟩
theorem yy_X9_owedBy : fd_YV mX9_owedBy 1 := ⟨⟨kw_671, kw_146, by decide +kernel, by decide +kernel, by decide +kernel⟩, kw_672, kw_673⟩
theorem yy_X9_warmth : fd_YV mX9_warmth 2 := ⟨⟨kw_676, kw_146, by decide +kernel, by decide +kernel, by decide +kernel⟩, kw_677, kw_678⟩
theorem yy_X9_freezes : fd_YV mX9_freezes 2 := ⟨⟨kw_680, kw_146, by decide +kernel, by decide +kernel, by decide +kernel⟩, kw_681, kw_682⟩
theorem yy_X9_was : fd_YV mX9_was 1 := ⟨⟨kw_684, kw_146, by decide +kernel, by decide +kernel, by decide +kernel⟩, kw_685, kw_686⟩
theorem yy_X9_ask : fd_YV mX9_ask 1 := ⟨⟨kw_688, kw_146, by decide +kernel, by decide +kernel, by decide +kernel⟩, kw_689, kw_690⟩
theorem yy_X9_count : fd_YV mX9_count 1 := ⟨⟨kw_693, kw_146, by decide +kernel, by decide +kernel, by decide +kernel⟩, kw_694, kw_695⟩
theorem yy_X9_placeDigest : fd_YV mX9_placeDigest 2 := ⟨⟨kw_697, kw_146, by decide +kernel, by decide +kernel, by decide +kernel⟩, kw_698, kw_699⟩
theorem yy_X9_debtDigest : fd_YV mX9_debtDigest 2 := ⟨⟨kw_701, kw_146, by decide +kernel, by decide +kernel, by decide +kernel⟩, kw_702, kw_703⟩
theorem yy_X9_nightDigest : fd_YV mX9_nightDigest 2 := ⟨⟨kw_705, kw_146, by decide +kernel, by decide +kernel, by decide +kernel⟩, kw_706, kw_707⟩
theorem yy_X9_carry : fd_YV mX9_carry 3 := ⟨⟨kw_709, kw_146, by decide +kernel, by decide +kernel, by decide +kernel⟩, kw_710, kw_711⟩
def fd_max (x y : Int32) : Int32 := if x < y then y else x
theorem fr_max {g : fd_G} {M : fd_M} {E : Array Value → State → Prop} {R : Room} {Q : Array Value → State → List Frame → State → Prop} {pc idx : Nat} {lv : List (Nat × Value)} {st : List Value} {X : fd_X} {h : fd_H} {cells slots : Nat} {x y : Int32} (hd : decode M.2.1 pc = .ok (.invokestatic idx, 3)) (hw : Cond.methodLink M.1.cls idx Lib.Math.max.name ∈ fd_gt) (h1 : 1 ≤ R.frames) (h2 : (st.map fun v => v.category).sum + 13 ≤ R.locals) (h3 : cells ≤ R.cells) (h4 : slots ≤ R.slots) (kk : fd_A g M E R Q (pc + 3) lv (.int (fd_max x y) :: st) X h cells slots) : fd_A g M E R Q pc lv (.int y :: .int x :: st) X h cells slots := by
  intro p e s m args below meth c C H locs ls hP hz hS hl
  have hts := C.2.2.2.2.2.2.1
  exact va_mmax C.1 C.2.1 (C.2.2.1.trans hl.1.symm) C.2.2.2.2.2.1 (hts _ hw) (hts _ yy_J9_max_7cf53.2) (hts _ yy_J9_max_7cf53.1.2.1) (hts _ yy_J9_max_7cf53.1.1) h1 h2 h3 h4 hd (kk p e s m args below meth c C H locs ls hP hz hS hl)
def fd_min (x y : Int32) : Int32 := if y < x then y else x
theorem fr_min {g : fd_G} {M : fd_M} {E : Array Value → State → Prop} {R : Room} {Q : Array Value → State → List Frame → State → Prop} {pc idx : Nat} {lv : List (Nat × Value)} {st : List Value} {X : fd_X} {h : fd_H} {cells slots : Nat} {x y : Int32} (hd : decode M.2.1 pc = .ok (.invokestatic idx, 3)) (hw : Cond.methodLink M.1.cls idx Lib.Math.min.name ∈ fd_gt) (h1 : 1 ≤ R.frames) (h2 : (st.map fun v => v.category).sum + 13 ≤ R.locals) (h3 : cells ≤ R.cells) (h4 : slots ≤ R.slots) (kk : fd_A g M E R Q (pc + 3) lv (.int (fd_min x y) :: st) X h cells slots) : fd_A g M E R Q pc lv (.int y :: .int x :: st) X h cells slots := by
  intro p e s m args below meth c C H locs ls hP hz hS hl
  have hts := C.2.2.2.2.2.2.1
  exact va_mmin C.1 C.2.1 (C.2.2.1.trans hl.1.symm) C.2.2.2.2.2.1 (hts _ hw) (hts _ yy_J9_min_7cf53.2) (hts _ yy_J9_min_7cf53.1.2.1) (hts _ yy_J9_min_7cf53.1.1) h1 h2 h3 h4 hd (kk p e s m args below meth c C H locs ls hP hz hS hl)
