theorem dX8_mixPlace_0 : decode cX8_mixPlace 0 = .ok (.lload_n 1, 1) := by decide +kernel
theorem dX8_mixPlace_1 : decode cX8_mixPlace 1 = .ok (.aload_n 0, 1) := by decide +kernel
theorem dX8_mixPlace_2 : decode cX8_mixPlace 2 = .ok (.iload_n 3, 1) := by decide +kernel
theorem dX8_mixPlace_3 : decode cX8_mixPlace 3 = .ok (.iconst 0, 1) := by decide +kernel
theorem dX8_mixPlace_4 : decode cX8_mixPlace 4 = .ok (.invokevirtual 349, 3) := by decide +kernel
theorem dX8_mixPlace_7 : decode cX8_mixPlace 7 = .ok (.i2l, 1) := by decide +kernel
theorem dX8_mixPlace_8 : decode cX8_mixPlace 8 = .ok (.invokestatic 279, 3) := by decide +kernel
theorem dX8_mixPlace_11 : decode cX8_mixPlace 11 = .ok (.aload_n 0, 1) := by decide +kernel
theorem dX8_mixPlace_12 : decode cX8_mixPlace 12 = .ok (.iload_n 3, 1) := by decide +kernel
theorem dX8_mixPlace_13 : decode cX8_mixPlace 13 = .ok (.iconst 1, 1) := by decide +kernel
theorem dX8_mixPlace_14 : decode cX8_mixPlace 14 = .ok (.invokevirtual 349, 3) := by decide +kernel
theorem dX8_mixPlace_17 : decode cX8_mixPlace 17 = .ok (.i2l, 1) := by decide +kernel
theorem dX8_mixPlace_18 : decode cX8_mixPlace 18 = .ok (.invokestatic 279, 3) := by decide +kernel
theorem dX8_mixPlace_21 : decode cX8_mixPlace 21 = .ok (.lstore 4, 2) := by decide +kernel
theorem dX8_mixPlace_23 : decode cX8_mixPlace 23 = .ok (.lload 4, 2) := by decide +kernel
theorem dX8_mixPlace_25 : decode cX8_mixPlace 25 = .ok (.aload_n 0, 1) := by decide +kernel
theorem dX8_mixPlace_26 : decode cX8_mixPlace 26 = .ok (.iconst 3, 1) := by decide +kernel
theorem dX8_mixPlace_27 : decode cX8_mixPlace 27 = .ok (.iload_n 3, 1) := by decide +kernel
theorem dX8_mixPlace_28 : decode cX8_mixPlace 28 = .ok (.invokevirtual 352, 3) := by decide +kernel
theorem dX8_mixPlace_31 : decode cX8_mixPlace 31 = .ok (.i2l, 1) := by decide +kernel
theorem dX8_mixPlace_32 : decode cX8_mixPlace 32 = .ok (.invokestatic 279, 3) := by decide +kernel
theorem dX8_mixPlace_35 : decode cX8_mixPlace 35 = .ok (.aload_n 0, 1) := by decide +kernel
theorem dX8_mixPlace_36 : decode cX8_mixPlace 36 = .ok (.iconst 3, 1) := by decide +kernel
theorem dX8_mixPlace_37 : decode cX8_mixPlace 37 = .ok (.iload_n 3, 1) := by decide +kernel
theorem dX8_mixPlace_38 : decode cX8_mixPlace 38 = .ok (.invokevirtual 355, 3) := by decide +kernel
theorem dX8_mixPlace_41 : decode cX8_mixPlace 41 = .ok (.i2l, 1) := by decide +kernel
theorem dX8_mixPlace_42 : decode cX8_mixPlace 42 = .ok (.invokestatic 279, 3) := by decide +kernel
theorem dX8_mixPlace_45 : decode cX8_mixPlace 45 = .ok (.aload_n 0, 1) := by decide +kernel
theorem dX8_mixPlace_46 : decode cX8_mixPlace 46 = .ok (.iload_n 3, 1) := by decide +kernel
theorem dX8_mixPlace_47 : decode cX8_mixPlace 47 = .ok (.invokevirtual 358, 3) := by decide +kernel
theorem dX8_mixPlace_50 : decode cX8_mixPlace 50 = .ok (.i2l, 1) := by decide +kernel
theorem dX8_mixPlace_51 : decode cX8_mixPlace 51 = .ok (.invokestatic 279, 3) := by decide +kernel
theorem dX8_mixPlace_54 : decode cX8_mixPlace 54 = .ok (.lstore 4, 2) := by decide +kernel
theorem dX8_mixPlace_56 : decode cX8_mixPlace 56 = .ok (.lload 4, 2) := by decide +kernel
theorem dX8_mixPlace_58 : decode cX8_mixPlace 58 = .ok (.aload_n 0, 1) := by decide +kernel
theorem dX8_mixPlace_59 : decode cX8_mixPlace 59 = .ok (.iload_n 3, 1) := by decide +kernel
theorem dX8_mixPlace_60 : decode cX8_mixPlace 60 = .ok (.bipush 9, 2) := by decide +kernel
theorem dX8_mixPlace_62 : decode cX8_mixPlace 62 = .ok (.iconst (-1), 1) := by decide +kernel
theorem dX8_mixPlace_63 : decode cX8_mixPlace 63 = .ok (.invokevirtual 361, 3) := by decide +kernel
theorem dX8_mixPlace_66 : decode cX8_mixPlace 66 = .ok (.i2l, 1) := by decide +kernel
theorem dX8_mixPlace_67 : decode cX8_mixPlace 67 = .ok (.invokestatic 279, 3) := by decide +kernel
theorem dX8_mixPlace_70 : decode cX8_mixPlace 70 = .ok (.aload_n 0, 1) := by decide +kernel
theorem dX8_mixPlace_71 : decode cX8_mixPlace 71 = .ok (.iload_n 3, 1) := by decide +kernel
theorem dX8_mixPlace_72 : decode cX8_mixPlace 72 = .ok (.bipush 9, 2) := by decide +kernel
theorem dX8_mixPlace_74 : decode cX8_mixPlace 74 = .ok (.iconst 0, 1) := by decide +kernel
theorem dX8_mixPlace_75 : decode cX8_mixPlace 75 = .ok (.invokevirtual 361, 3) := by decide +kernel
theorem dX8_mixPlace_78 : decode cX8_mixPlace 78 = .ok (.i2l, 1) := by decide +kernel
theorem dX8_mixPlace_79 : decode cX8_mixPlace 79 = .ok (.invokestatic 279, 3) := by decide +kernel
theorem dX8_mixPlace_82 : decode cX8_mixPlace 82 = .ok (.lstore 4, 2) := by decide +kernel
theorem dX8_mixPlace_84 : decode cX8_mixPlace 84 = .ok (.lload 4, 2) := by decide +kernel
theorem dX8_mixPlace_86 : decode cX8_mixPlace 86 = .ok (.aload_n 0, 1) := by decide +kernel
theorem dX8_mixPlace_87 : decode cX8_mixPlace 87 = .ok (.iconst 5, 1) := by decide +kernel
theorem dX8_mixPlace_88 : decode cX8_mixPlace 88 = .ok (.iload_n 3, 1) := by decide +kernel
theorem dX8_mixPlace_89 : decode cX8_mixPlace 89 = .ok (.bipush 9, 2) := by decide +kernel
theorem dX8_mixPlace_91 : decode cX8_mixPlace 91 = .ok (.iconst 0, 1) := by decide +kernel
theorem dX8_mixPlace_92 : decode cX8_mixPlace 92 = .ok (.invokevirtual 364, 3) := by decide +kernel
theorem dX8_mixPlace_95 : decode cX8_mixPlace 95 = .ok (.invokestatic 279, 3) := by decide +kernel
theorem dX8_mixPlace_98 : decode cX8_mixPlace 98 = .ok (.aload_n 0, 1) := by decide +kernel
theorem dX8_mixPlace_99 : decode cX8_mixPlace 99 = .ok (.iconst 5, 1) := by decide +kernel
theorem dX8_mixPlace_100 : decode cX8_mixPlace 100 = .ok (.iload_n 3, 1) := by decide +kernel
theorem dX8_mixPlace_101 : decode cX8_mixPlace 101 = .ok (.bipush 9, 2) := by decide +kernel
theorem dX8_mixPlace_103 : decode cX8_mixPlace 103 = .ok (.iconst 1, 1) := by decide +kernel
theorem dX8_mixPlace_104 : decode cX8_mixPlace 104 = .ok (.invokevirtual 364, 3) := by decide +kernel
theorem dX8_mixPlace_107 : decode cX8_mixPlace 107 = .ok (.invokestatic 279, 3) := by decide +kernel
theorem dX8_mixPlace_110 : decode cX8_mixPlace 110 = .ok (.lstore 4, 2) := by decide +kernel
theorem dX8_mixPlace_112 : decode cX8_mixPlace 112 = .ok (.lload 4, 2) := by decide +kernel
theorem dX8_mixPlace_114 : decode cX8_mixPlace 114 = .ok (.aload_n 0, 1) := by decide +kernel
theorem dX8_mixPlace_115 : decode cX8_mixPlace 115 = .ok (.bipush 7, 2) := by decide +kernel
theorem dX8_mixPlace_117 : decode cX8_mixPlace 117 = .ok (.iload_n 3, 1) := by decide +kernel
theorem dX8_mixPlace_118 : decode cX8_mixPlace 118 = .ok (.invokevirtual 306, 3) := by decide +kernel
theorem dX8_mixPlace_121 : decode cX8_mixPlace 121 = .ok (.i2l, 1) := by decide +kernel
theorem dX8_mixPlace_122 : decode cX8_mixPlace 122 = .ok (.invokestatic 279, 3) := by decide +kernel
theorem dX8_mixPlace_125 : decode cX8_mixPlace 125 = .ok (.lreturn, 1) := by decide +kernel
def fX8_mixPlace (a1 : Int64) (a3 : Int32) (h : fd_H) : Option (Int64 × fd_H) :=
(fX8_place a3 (0 : Int32) h).bind fun r2 =>
(fX8_mix a1 ((r2).toInt64)).bind fun r4 =>
(fX8_place a3 (1 : Int32) h).bind fun r6 =>
(fX8_mix r4 ((r6).toInt64)).bind fun r8 =>
(fX8_warmth (3 : Int32) a3 h).bind fun r10 =>
(fX8_mix r8 ((r10).toInt64)).bind fun r12 =>
(fX8_freezes (3 : Int32) a3 h).bind fun r14 =>
(fX8_mix r12 ((r14).toInt64)).bind fun r16 =>
(fX8_first a3 h).bind fun r18 =>
(fX8_mix r16 ((r18).toInt64)).bind fun r20 =>
(fX8_keep a3 (9 : Int32) (-1 : Int32) h).bind fun r22 =>
(fX8_mix r20 ((r22).toInt64)).bind fun r24 =>
(fX8_keep a3 (9 : Int32) (0 : Int32) h).bind fun r26 =>
(fX8_mix r24 ((r26).toInt64)).bind fun r28 =>
(fX8_chance (5 : Int32) a3 (9 : Int32) (0 : Int32) h).bind fun r30 =>
(fX8_mix r28 r30).bind fun r32 =>
(fX8_chance (5 : Int32) a3 (9 : Int32) (1 : Int32) h).bind fun r34 =>
(fX8_mix r32 r34).bind fun r36 =>
(fX8_year (7 : Int32) a3 h).bind fun q38 =>
(fX8_mix r36 ((q38.1).toInt64)).bind fun r40 =>
some (r40, q38.2)
set_option maxRecDepth 100000 in
set_option maxHeartbeats 4000000 in
theorem sX8_mixPlace {g : fd_G} {hm : fd_H} {a1 : Int64} {a3 : Int32} {r : Int64 × fd_H} {h : fd_H} (hf : fX8_mixPlace a1 a3 h = some r) : fd_S g mX8_mixPlace 4 [.ref (g.2.2.2 + 0), .long a1, .int a3] fd_X0 (fd_mx h hm) (some (.long r.1)) fd_X0 (fd_mx r.2 hm) 0 0 := by
  refine fd_S.of (by decide +kernel) (Nat.le_of_ble_eq_true rfl) ?_
  unfold fX8_mixPlace at hf
  refine fr_loc (lv' := [(0, .ref (g.2.2.2 + 0)), (1, .long a1), (3, .int a3)]) [0, 1, 2] rfl ?_
  refine fr_lload_n (pc := 0) dX8_mixPlace_0 1 rfl rfl ?_
  refine fr_aload_n (pc := 1) dX8_mixPlace_1 0 rfl rfl ?_
  refine fr_iload_n (pc := 2) dX8_mixPlace_2 2 rfl rfl ?_
  refine fr_iconst (pc := 3) (v := (0 : Int32)) dX8_mixPlace_3 (by decide) ?_
  obtain ⟨r2, hc1, hf⟩ := fd_bi hf
  refine fr_callVi (pc := 4) (av := [.int a3, .int (0 : Int32)]) dX8_mixPlace_4 yy_X8_place kw_413 (by decide) rfl rfl rfl rfl (Nat.le_of_ble_eq_true rfl) ⟨Nat.le_of_ble_eq_true rfl, Nat.le_of_ble_eq_true rfl, Nat.zero_le _, Nat.zero_le _⟩ (sX8_place hc1) ?_
  refine fr_i2l (pc := 7) dX8_mixPlace_7 ?_
  obtain ⟨r4, hc3, hf⟩ := fd_bi hf
  refine fr_callSl (pc := 8) (av := [.long a1, .long ((r2).toInt64)]) dX8_mixPlace_8 yy_X8_mix kw_416 rfl rfl (Nat.le_of_ble_eq_true rfl) ⟨Nat.le_of_ble_eq_true rfl, Nat.le_of_ble_eq_true rfl, Nat.zero_le _, Nat.zero_le _⟩ (sX8_mix hc3) ?_
  refine fr_aload_n (pc := 11) dX8_mixPlace_11 0 rfl rfl ?_
  refine fr_iload_n (pc := 12) dX8_mixPlace_12 2 rfl rfl ?_
  refine fr_iconst (pc := 13) (v := (1 : Int32)) dX8_mixPlace_13 (by decide) ?_
  obtain ⟨r6, hc5, hf⟩ := fd_bi hf
  refine fr_callVi (pc := 14) (av := [.int a3, .int (1 : Int32)]) dX8_mixPlace_14 yy_X8_place kw_413 (by decide) rfl rfl rfl rfl (Nat.le_of_ble_eq_true rfl) ⟨Nat.le_of_ble_eq_true rfl, Nat.le_of_ble_eq_true rfl, Nat.zero_le _, Nat.zero_le _⟩ (sX8_place hc5) ?_
  refine fr_i2l (pc := 17) dX8_mixPlace_17 ?_
  obtain ⟨r8, hc7, hf⟩ := fd_bi hf
  refine fr_callSl (pc := 18) (av := [.long r4, .long ((r6).toInt64)]) dX8_mixPlace_18 yy_X8_mix kw_416 rfl rfl (Nat.le_of_ble_eq_true rfl) ⟨Nat.le_of_ble_eq_true rfl, Nat.le_of_ble_eq_true rfl, Nat.zero_le _, Nat.zero_le _⟩ (sX8_mix hc7) ?_
  refine fr_lstore (pc := 21) (lv' := [(4, .long r8), (0, .ref (g.2.2.2 + 0)), (1, .long a1), (3, .int a3)]) dX8_mixPlace_21 (by decide) rfl ?_
  refine fr_lload (pc := 23) dX8_mixPlace_23 0 rfl ?_
  refine fr_aload_n (pc := 25) dX8_mixPlace_25 1 rfl rfl ?_
  refine fr_iconst (pc := 26) (v := (3 : Int32)) dX8_mixPlace_26 (by decide) ?_
  refine fr_iload_n (pc := 27) dX8_mixPlace_27 3 rfl rfl ?_
  obtain ⟨r10, hc9, hf⟩ := fd_bi hf
  refine fr_callVi (pc := 28) (av := [.int (3 : Int32), .int a3]) dX8_mixPlace_28 yy_X8_warmth kw_420 (by decide) rfl rfl rfl rfl (Nat.le_of_ble_eq_true rfl) ⟨Nat.le_of_ble_eq_true rfl, Nat.le_of_ble_eq_true rfl, Nat.zero_le _, Nat.zero_le _⟩ (sX8_warmth hc9) ?_
  refine fr_i2l (pc := 31) dX8_mixPlace_31 ?_
  obtain ⟨r12, hc11, hf⟩ := fd_bi hf
  refine fr_callSl (pc := 32) (av := [.long r8, .long ((r10).toInt64)]) dX8_mixPlace_32 yy_X8_mix kw_416 rfl rfl (Nat.le_of_ble_eq_true rfl) ⟨Nat.le_of_ble_eq_true rfl, Nat.le_of_ble_eq_true rfl, Nat.zero_le _, Nat.zero_le _⟩ (sX8_mix hc11) ?_
  refine fr_aload_n (pc := 35) dX8_mixPlace_35 1 rfl rfl ?_
  refine fr_iconst (pc := 36) (v := (3 : Int32)) dX8_mixPlace_36 (by decide) ?_
  refine fr_iload_n (pc := 37) dX8_mixPlace_37 3 rfl rfl ?_
  obtain ⟨r14, hc13, hf⟩ := fd_bi hf
  refine fr_callVi (pc := 38) (av := [.int (3 : Int32), .int a3]) dX8_mixPlace_38 yy_X8_freezes kw_424 (by decide) rfl rfl rfl rfl (Nat.le_of_ble_eq_true rfl) ⟨Nat.le_of_ble_eq_true rfl, Nat.le_of_ble_eq_true rfl, Nat.zero_le _, Nat.zero_le _⟩ (sX8_freezes hc13) ?_
  refine fr_i2l (pc := 41) dX8_mixPlace_41 ?_
  obtain ⟨r16, hc15, hf⟩ := fd_bi hf
  refine fr_callSl (pc := 42) (av := [.long r12, .long ((r14).toInt64)]) dX8_mixPlace_42 yy_X8_mix kw_416 rfl rfl (Nat.le_of_ble_eq_true rfl) ⟨Nat.le_of_ble_eq_true rfl, Nat.le_of_ble_eq_true rfl, Nat.zero_le _, Nat.zero_le _⟩ (sX8_mix hc15) ?_
  refine fr_aload_n (pc := 45) dX8_mixPlace_45 1 rfl rfl ?_
  refine fr_iload_n (pc := 46) dX8_mixPlace_46 3 rfl rfl ?_
  obtain ⟨r18, hc17, hf⟩ := fd_bi hf
  refine fr_callVi (pc := 47) (av := [.int a3]) dX8_mixPlace_47 yy_X8_first kw_428 (by decide) rfl rfl rfl rfl (Nat.le_of_ble_eq_true rfl) ⟨Nat.le_of_ble_eq_true rfl, Nat.le_of_ble_eq_true rfl, Nat.zero_le _, Nat.zero_le _⟩ (sX8_first hc17) ?_
  refine fr_i2l (pc := 50) dX8_mixPlace_50 ?_
  obtain ⟨r20, hc19, hf⟩ := fd_bi hf
  refine fr_callSl (pc := 51) (av := [.long r16, .long ((r18).toInt64)]) dX8_mixPlace_51 yy_X8_mix kw_416 rfl rfl (Nat.le_of_ble_eq_true rfl) ⟨Nat.le_of_ble_eq_true rfl, Nat.le_of_ble_eq_true rfl, Nat.zero_le _, Nat.zero_le _⟩ (sX8_mix hc19) ?_
  refine fr_lstore (pc := 54) (lv' := [(4, .long r20), (0, .ref (g.2.2.2 + 0)), (1, .long a1), (3, .int a3)]) dX8_mixPlace_54 (by decide) rfl ?_
  refine fr_lload (pc := 56) dX8_mixPlace_56 0 rfl ?_
  refine fr_aload_n (pc := 58) dX8_mixPlace_58 1 rfl rfl ?_
  refine fr_iload_n (pc := 59) dX8_mixPlace_59 3 rfl rfl ?_
  refine fr_bipush (pc := 60) (v := (9 : Int32)) dX8_mixPlace_60 (by decide) ?_
  refine fr_iconst (pc := 62) (v := (-1 : Int32)) dX8_mixPlace_62 (by decide) ?_
  obtain ⟨r22, hc21, hf⟩ := fd_bi hf
  refine fr_callVi (pc := 63) (av := [.int a3, .int (9 : Int32), .int (-1 : Int32)]) dX8_mixPlace_63 yy_X8_keep kw_432 (by decide) rfl rfl rfl rfl (Nat.le_of_ble_eq_true rfl) ⟨Nat.le_of_ble_eq_true rfl, Nat.le_of_ble_eq_true rfl, Nat.zero_le _, Nat.zero_le _⟩ (sX8_keep hc21) ?_
  refine fr_i2l (pc := 66) dX8_mixPlace_66 ?_
  obtain ⟨r24, hc23, hf⟩ := fd_bi hf
  refine fr_callSl (pc := 67) (av := [.long r20, .long ((r22).toInt64)]) dX8_mixPlace_67 yy_X8_mix kw_416 rfl rfl (Nat.le_of_ble_eq_true rfl) ⟨Nat.le_of_ble_eq_true rfl, Nat.le_of_ble_eq_true rfl, Nat.zero_le _, Nat.zero_le _⟩ (sX8_mix hc23) ?_
  refine fr_aload_n (pc := 70) dX8_mixPlace_70 1 rfl rfl ?_
  refine fr_iload_n (pc := 71) dX8_mixPlace_71 3 rfl rfl ?_
  refine fr_bipush (pc := 72) (v := (9 : Int32)) dX8_mixPlace_72 (by decide) ?_
  refine fr_iconst (pc := 74) (v := (0 : Int32)) dX8_mixPlace_74 (by decide) ?_
  obtain ⟨r26, hc25, hf⟩ := fd_bi hf
  refine fr_callVi (pc := 75) (av := [.int a3, .int (9 : Int32), .int (0 : Int32)]) dX8_mixPlace_75 yy_X8_keep kw_432 (by decide) rfl rfl rfl rfl (Nat.le_of_ble_eq_true rfl) ⟨Nat.le_of_ble_eq_true rfl, Nat.le_of_ble_eq_true rfl, Nat.zero_le _, Nat.zero_le _⟩ (sX8_keep hc25) ?_
  refine fr_i2l (pc := 78) dX8_mixPlace_78 ?_
  obtain ⟨r28, hc27, hf⟩ := fd_bi hf
  refine fr_callSl (pc := 79) (av := [.long r24, .long ((r26).toInt64)]) dX8_mixPlace_79 yy_X8_mix kw_416 rfl rfl (Nat.le_of_ble_eq_true rfl) ⟨Nat.le_of_ble_eq_true rfl, Nat.le_of_ble_eq_true rfl, Nat.zero_le _, Nat.zero_le _⟩ (sX8_mix hc27) ?_
  refine fr_lstore (pc := 82) (lv' := [(4, .long r28), (0, .ref (g.2.2.2 + 0)), (1, .long a1), (3, .int a3)]) dX8_mixPlace_82 (by decide) rfl ?_
  refine fr_lload (pc := 84) dX8_mixPlace_84 0 rfl ?_
  refine fr_aload_n (pc := 86) dX8_mixPlace_86 1 rfl rfl ?_
  refine fr_iconst (pc := 87) (v := (5 : Int32)) dX8_mixPlace_87 (by decide) ?_
  refine fr_iload_n (pc := 88) dX8_mixPlace_88 3 rfl rfl ?_
  refine fr_bipush (pc := 89) (v := (9 : Int32)) dX8_mixPlace_89 (by decide) ?_
  refine fr_iconst (pc := 91) (v := (0 : Int32)) dX8_mixPlace_91 (by decide) ?_
  obtain ⟨r30, hc29, hf⟩ := fd_bi hf
  refine fr_callVl (pc := 92) (av := [.int (5 : Int32), .int a3, .int (9 : Int32), .int (0 : Int32)]) dX8_mixPlace_92 yy_X8_chance kw_436 (by decide) rfl rfl rfl rfl (Nat.le_of_ble_eq_true rfl) ⟨Nat.le_of_ble_eq_true rfl, Nat.le_of_ble_eq_true rfl, Nat.zero_le _, Nat.zero_le _⟩ (sX8_chance hc29) ?_
  obtain ⟨r32, hc31, hf⟩ := fd_bi hf
  refine fr_callSl (pc := 95) (av := [.long r28, .long r30]) dX8_mixPlace_95 yy_X8_mix kw_416 rfl rfl (Nat.le_of_ble_eq_true rfl) ⟨Nat.le_of_ble_eq_true rfl, Nat.le_of_ble_eq_true rfl, Nat.zero_le _, Nat.zero_le _⟩ (sX8_mix hc31) ?_
  refine fr_aload_n (pc := 98) dX8_mixPlace_98 1 rfl rfl ?_
  refine fr_iconst (pc := 99) (v := (5 : Int32)) dX8_mixPlace_99 (by decide) ?_
  refine fr_iload_n (pc := 100) dX8_mixPlace_100 3 rfl rfl ?_
  refine fr_bipush (pc := 101) (v := (9 : Int32)) dX8_mixPlace_101 (by decide) ?_
  refine fr_iconst (pc := 103) (v := (1 : Int32)) dX8_mixPlace_103 (by decide) ?_
  obtain ⟨r34, hc33, hf⟩ := fd_bi hf
  refine fr_callVl (pc := 104) (av := [.int (5 : Int32), .int a3, .int (9 : Int32), .int (1 : Int32)]) dX8_mixPlace_104 yy_X8_chance kw_436 (by decide) rfl rfl rfl rfl (Nat.le_of_ble_eq_true rfl) ⟨Nat.le_of_ble_eq_true rfl, Nat.le_of_ble_eq_true rfl, Nat.zero_le _, Nat.zero_le _⟩ (sX8_chance hc33) ?_
  obtain ⟨r36, hc35, hf⟩ := fd_bi hf
  refine fr_callSl (pc := 107) (av := [.long r32, .long r34]) dX8_mixPlace_107 yy_X8_mix kw_416 rfl rfl (Nat.le_of_ble_eq_true rfl) ⟨Nat.le_of_ble_eq_true rfl, Nat.le_of_ble_eq_true rfl, Nat.zero_le _, Nat.zero_le _⟩ (sX8_mix hc35) ?_
  refine fr_lstore (pc := 110) (lv' := [(4, .long r36), (0, .ref (g.2.2.2 + 0)), (1, .long a1), (3, .int a3)]) dX8_mixPlace_110 (by decide) rfl ?_
  refine fr_lload (pc := 112) dX8_mixPlace_112 0 rfl ?_
  refine fr_aload_n (pc := 114) dX8_mixPlace_114 1 rfl rfl ?_
  refine fr_bipush (pc := 115) (v := (7 : Int32)) dX8_mixPlace_115 (by decide) ?_
  refine fr_iload_n (pc := 117) dX8_mixPlace_117 3 rfl rfl ?_
  obtain ⟨q38, hc37, hf⟩ := fd_bi hf
  refine fr_callVi (pc := 118) (av := [.int (7 : Int32), .int a3]) dX8_mixPlace_118 yy_X8_year kw_440 (by decide) rfl rfl rfl rfl (Nat.le_of_ble_eq_true rfl) ⟨Nat.le_of_ble_eq_true rfl, Nat.le_of_ble_eq_true rfl, Nat.zero_le _, Nat.zero_le _⟩ (sX8_year hc37) ?_
  refine fr_i2l (pc := 121) dX8_mixPlace_121 ?_
  obtain ⟨r40, hc39, hf⟩ := fd_bi hf
  refine fr_callSl (pc := 122) (av := [.long r36, .long ((q38.1).toInt64)]) dX8_mixPlace_122 yy_X8_mix kw_416 rfl rfl (Nat.le_of_ble_eq_true rfl) ⟨Nat.le_of_ble_eq_true rfl, Nat.le_of_ble_eq_true rfl, Nat.zero_le _, Nat.zero_le _⟩ (sX8_mix hc39) ?_
  exact vx_lretW (x := r40) (pc := 125) dX8_mixPlace_125 rfl hf
theorem dX9_faultOf_0 : decode cX9_faultOf 0 = .ok (.aload_n 0, 1) := by decide +kernel
theorem dX9_faultOf_1 : decode cX9_faultOf 1 = .ok (.iconst 0, 1) := by decide +kernel
theorem dX9_faultOf_2 : decode cX9_faultOf 2 = .ok (.invokevirtual 120, 3) := by decide +kernel
theorem dX9_faultOf_5 : decode cX9_faultOf 5 = .ok (.istore_n 2, 1) := by decide +kernel
theorem dX9_faultOf_6 : decode cX9_faultOf 6 = .ok (.aload_n 0, 1) := by decide +kernel
theorem dX9_faultOf_7 : decode cX9_faultOf 7 = .ok (.invokevirtual 124, 3) := by decide +kernel
theorem dX9_faultOf_10 : decode cX9_faultOf 10 = .ok (.istore_n 3, 1) := by decide +kernel
theorem dX9_faultOf_11 : decode cX9_faultOf 11 = .ok (.aload_n 0, 1) := by decide +kernel
theorem dX9_faultOf_12 : decode cX9_faultOf 12 = .ok (.iconst 2, 1) := by decide +kernel
theorem dX9_faultOf_13 : decode cX9_faultOf 13 = .ok (.invokevirtual 120, 3) := by decide +kernel
theorem dX9_faultOf_16 : decode cX9_faultOf 16 = .ok (.istore 4, 2) := by decide +kernel
theorem dX9_faultOf_18 : decode cX9_faultOf 18 = .ok (.iload_n 1, 1) := by decide +kernel
theorem dX9_faultOf_19 : decode cX9_faultOf 19 = .ok (.ifCond .ne 7, 3) := by decide +kernel
theorem dX9_faultOf_22 : decode cX9_faultOf 22 = .ok (.iload_n 2, 1) := by decide +kernel
theorem dX9_faultOf_23 : decode cX9_faultOf 23 = .ok (.goto 14, 3) := by decide +kernel
theorem dX9_faultOf_26 : decode cX9_faultOf 26 = .ok (.iload_n 1, 1) := by decide +kernel
theorem dX9_faultOf_27 : decode cX9_faultOf 27 = .ok (.iconst 1, 1) := by decide +kernel
theorem dX9_faultOf_28 : decode cX9_faultOf 28 = .ok (.if_icmp .ne 7, 3) := by decide +kernel
theorem dX9_faultOf_31 : decode cX9_faultOf 31 = .ok (.iload_n 3, 1) := by decide +kernel
theorem dX9_faultOf_32 : decode cX9_faultOf 32 = .ok (.goto 5, 3) := by decide +kernel
theorem dX9_faultOf_35 : decode cX9_faultOf 35 = .ok (.iload 4, 2) := by decide +kernel
theorem dX9_faultOf_37 : decode cX9_faultOf 37 = .ok (.ireturn, 1) := by decide +kernel
def fX9_faultOf (a1 : Int32) (h : fd_H) : Option (Int32 × fd_H) :=
(fX9_readsParts (0 : Int32) h).bind fun q2 =>
(fX9_readsNights q2.2).bind fun q4 =>
(fX9_readsParts (2 : Int32) q4.2).bind fun q6 =>
if a1 = 0 then (
some (q2.1, q6.2))
else (
if a1 = (1 : Int32) then (
some (q4.1, q6.2))
else (
some (q6.1, q6.2)))
set_option maxRecDepth 100000 in
set_option maxHeartbeats 4000000 in
theorem sX9_faultOf {g : fd_G} {hm : fd_H} {a1 : Int32} {r : Int32 × fd_H} {h : fd_H} (hf : fX9_faultOf a1 h = some r) : fd_S g mX9_faultOf 4 [.ref (g.2.2.2 + 73), .int a1] fd_X0 (fd_mx hm h) (some (.int r.1)) fd_X0 (fd_mx hm r.2) 0 0 := by
  refine fd_S.of (by decide +kernel) (Nat.le_of_ble_eq_true rfl) ?_
  unfold fX9_faultOf at hf
  refine fr_loc (lv' := [(0, .ref (g.2.2.2 + 73)), (1, .int a1)]) [0, 1] rfl ?_
  refine fr_aload_n (pc := 0) dX9_faultOf_0 0 rfl rfl ?_
  refine fr_iconst (pc := 1) (v := (0 : Int32)) dX9_faultOf_1 (by decide) ?_
  obtain ⟨q2, hc1, hf⟩ := fd_bi hf
  refine fr_callVi (pc := 2) (av := [.int (0 : Int32)]) dX9_faultOf_2 yy_X9_readsParts kw_444 (by decide) rfl rfl rfl rfl (Nat.le_of_ble_eq_true rfl) ⟨Nat.le_of_ble_eq_true rfl, Nat.le_of_ble_eq_true rfl, Nat.zero_le _, Nat.zero_le _⟩ (sX9_readsParts hc1) ?_
  refine fr_istore_n (pc := 5) (lv' := [(2, .int q2.1), (0, .ref (g.2.2.2 + 73)), (1, .int a1)]) dX9_faultOf_5 rfl (by decide) rfl ?_
  refine fr_aload_n (pc := 6) dX9_faultOf_6 1 rfl rfl ?_
  obtain ⟨q4, hc3, hf⟩ := fd_bi hf
  refine fr_callVi (pc := 7) (av := []) dX9_faultOf_7 yy_X9_readsNights kw_448 (by decide) rfl rfl rfl rfl (Nat.le_of_ble_eq_true rfl) ⟨Nat.le_of_ble_eq_true rfl, Nat.le_of_ble_eq_true rfl, Nat.zero_le _, Nat.zero_le _⟩ (sX9_readsNights hc3) ?_
  refine fr_istore_n (pc := 10) (lv' := [(3, .int q4.1), (2, .int q2.1), (0, .ref (g.2.2.2 + 73)), (1, .int a1)]) dX9_faultOf_10 rfl (by decide) rfl ?_
  refine fr_aload_n (pc := 11) dX9_faultOf_11 2 rfl rfl ?_
  refine fr_iconst (pc := 12) (v := (2 : Int32)) dX9_faultOf_12 (by decide) ?_
  obtain ⟨q6, hc5, hf⟩ := fd_bi hf
  refine fr_callVi (pc := 13) (av := [.int (2 : Int32)]) dX9_faultOf_13 yy_X9_readsParts kw_444 (by decide) rfl rfl rfl rfl (Nat.le_of_ble_eq_true rfl) ⟨Nat.le_of_ble_eq_true rfl, Nat.le_of_ble_eq_true rfl, Nat.zero_le _, Nat.zero_le _⟩ (sX9_readsParts hc5) ?_
  refine fr_istore (pc := 16) (lv' := [(4, .int q6.1), (3, .int q4.1), (2, .int q2.1), (0, .ref (g.2.2.2 + 73)), (1, .int a1)]) dX9_faultOf_16 (by decide) rfl ?_
  refine fr_iload_n (pc := 18) dX9_faultOf_18 4 rfl rfl ?_
  refine fr_if_ne (pc := 19) 26 dX9_faultOf_19 (by decide) (fun c7 => ?_) (fun c7 => ?_)
  · have hf := fd_f c7 hf
    refine fr_iload_n (pc := 26) dX9_faultOf_26 4 rfl rfl ?_
    refine fr_iconst (pc := 27) (v := (1 : Int32)) dX9_faultOf_27 (by decide) ?_
    refine fr_icmp_ne (pc := 28) 35 dX9_faultOf_28 (by decide) (fun c8 => ?_) (fun c8 => ?_)
    · have hf := fd_f c8 hf
      refine fr_iload (pc := 35) dX9_faultOf_35 0 rfl ?_
      exact vm_iretW (x := q6.1) (pc := 37) dX9_faultOf_37 rfl hf
    · have hf := fd_t c8 hf
      refine fr_iload_n (pc := 31) dX9_faultOf_31 1 rfl rfl ?_
      refine fr_goto (pc := 32) 37 dX9_faultOf_32 (by decide) ?_
      exact vm_iretW (x := q4.1) (pc := 37) dX9_faultOf_37 rfl hf
  · have hf := fd_t c7 hf
    refine fr_iload_n (pc := 22) dX9_faultOf_22 2 rfl rfl ?_
    refine fr_goto (pc := 23) 37 dX9_faultOf_23 (by decide) ?_
    exact vm_iretW (x := q2.1) (pc := 37) dX9_faultOf_37 rfl hf
theorem dX8_type_0 : decode cX8_type 0 = .ok (.iload_n 1, 1) := by decide +kernel
theorem dX8_type_1 : decode cX8_type 1 = .ok (.iconst 3, 1) := by decide +kernel
theorem dX8_type_2 : decode cX8_type 2 = .ok (.invokestatic 62, 3) := by decide +kernel
theorem dX8_type_5 : decode cX8_type 5 = .ok (.ifCond .eq 13, 3) := by decide +kernel
theorem dX8_type_8 : decode cX8_type 8 = .ok (.iload_n 2, 1) := by decide +kernel
theorem dX8_type_9 : decode cX8_type 9 = .ok (.sipush 256, 3) := by decide +kernel
theorem dX8_type_12 : decode cX8_type 12 = .ok (.invokestatic 62, 3) := by decide +kernel
theorem dX8_type_15 : decode cX8_type 15 = .ok (.ifCond .ne 6, 3) := by decide +kernel
theorem dX8_type_18 : decode cX8_type 18 = .ok (.bipush (-2), 2) := by decide +kernel
theorem dX8_type_20 : decode cX8_type 20 = .ok (.ireturn, 1) := by decide +kernel
theorem dX8_type_21 : decode cX8_type 21 = .ok (.aload_n 0, 1) := by decide +kernel
theorem dX8_type_22 : decode cX8_type 22 = .ok (.getfield 14, 3) := by decide +kernel
theorem dX8_type_25 : decode cX8_type 25 = .ok (.iload_n 1, 1) := by decide +kernel
theorem dX8_type_26 : decode cX8_type 26 = .ok (.aaload, 1) := by decide +kernel
theorem dX8_type_27 : decode cX8_type 27 = .ok (.iload_n 2, 1) := by decide +kernel
theorem dX8_type_28 : decode cX8_type 28 = .ok (.invokevirtual 66, 3) := by decide +kernel
theorem dX8_type_31 : decode cX8_type 31 = .ok (.ifCond .ne 6, 3) := by decide +kernel
theorem dX8_type_34 : decode cX8_type 34 = .ok (.bipush (-4), 2) := by decide +kernel
theorem dX8_type_36 : decode cX8_type 36 = .ok (.ireturn, 1) := by decide +kernel
theorem dX8_type_37 : decode cX8_type 37 = .ok (.aload_n 0, 1) := by decide +kernel
theorem dX8_type_38 : decode cX8_type 38 = .ok (.iload_n 1, 1) := by decide +kernel
theorem dX8_type_39 : decode cX8_type 39 = .ok (.invokevirtual 70, 3) := by decide +kernel
theorem dX8_type_42 : decode cX8_type 42 = .ok (.aload_n 0, 1) := by decide +kernel
theorem dX8_type_43 : decode cX8_type 43 = .ok (.getfield 14, 3) := by decide +kernel
theorem dX8_type_46 : decode cX8_type 46 = .ok (.iload_n 1, 1) := by decide +kernel
theorem dX8_type_47 : decode cX8_type 47 = .ok (.aaload, 1) := by decide +kernel
theorem dX8_type_48 : decode cX8_type 48 = .ok (.getfield 73, 3) := by decide +kernel
theorem dX8_type_51 : decode cX8_type 51 = .ok (.ireturn, 1) := by decide +kernel
def fX8_type (a1 : Int32) (a2 : Int32) (h : fd_H) : Option (Int32 × fd_H) :=
(fX8_isBelow a1 (3 : Int32)).bind fun r2 =>
if r2 = true then (
(fX8_isBelow a2 (256 : Int32)).bind fun r5 =>
if r5 = true then (
fd_g (fd_in a1 3) (
(fX6_add (2 + 3 * a1.toNatClampNeg) (fd_tn a1) a2 h).bind fun q9 =>
if q9.1 = true then (
(fX8_parse a1 q9.2).bind fun h12 =>
fd_g (fd_in a1 3) (
some ((h12.1 (2 + 3 * a1.toNatClampNeg) 2), h12)))
else (
some ((-4 : Int32), q9.2))))
else (
some ((-2 : Int32), h)))
else (
some ((-2 : Int32), h))
set_option maxRecDepth 100000 in
set_option maxHeartbeats 4000000 in
theorem sX8_type {g : fd_G} {hm : fd_H} {a1 : Int32} {a2 : Int32} {r : Int32 × fd_H} {h : fd_H} (hf : fX8_type a1 a2 h = some r) : fd_S g mX8_type 5 [.ref (g.2.2.2 + 0), .int a1, .int a2] fd_X0 (fd_mx h hm) (some (.int r.1)) fd_X0 (fd_mx r.2 hm) 0 0 := by
  refine fd_S.of (by decide +kernel) (Nat.le_of_ble_eq_true rfl) ?_
  unfold fX8_type at hf
  refine fr_loc (lv' := [(0, .ref (g.2.2.2 + 0)), (1, .int a1), (2, .int a2)]) [0, 1, 2] rfl ?_
  refine fr_iload_n (pc := 0) dX8_type_0 1 rfl rfl ?_
  refine fr_iconst (pc := 1) (v := (3 : Int32)) dX8_type_1 (by decide) ?_
  obtain ⟨r2, hc1, hf⟩ := fd_bi hf
  refine fr_callSz (pc := 2) (av := [.int a1, .int (3 : Int32)]) dX8_type_2 yy_X8_isBelow kw_111 rfl rfl (Nat.le_of_ble_eq_true rfl) ⟨Nat.le_of_ble_eq_true rfl, Nat.le_of_ble_eq_true rfl, Nat.zero_le _, Nat.zero_le _⟩ (sX8_isBelow hc1) ?_
  refine fr_bz (pc := 5) 18 dX8_type_5 (by decide) (fun c3 => ?_) (fun c3 => ?_)
  · have hf := fd_f c3 hf
    refine fr_bipush (pc := 18) (v := (-2 : Int32)) dX8_type_18 (by decide) ?_
    exact vx_iretW (x := (-2 : Int32)) (pc := 20) dX8_type_20 rfl hf
  · have hf := fd_t c3 hf
    refine fr_iload_n (pc := 8) dX8_type_8 2 rfl rfl ?_
    refine fr_sipush (pc := 9) (v := (256 : Int32)) dX8_type_9 (by decide) ?_
    obtain ⟨r5, hc4, hf⟩ := fd_bi hf
    refine fr_callSz (pc := 12) (av := [.int a2, .int (256 : Int32)]) dX8_type_12 yy_X8_isBelow kw_111 rfl rfl (Nat.le_of_ble_eq_true rfl) ⟨Nat.le_of_ble_eq_true rfl, Nat.le_of_ble_eq_true rfl, Nat.zero_le _, Nat.zero_le _⟩ (sX8_isBelow hc4) ?_
    refine fr_bn (pc := 15) 21 dX8_type_15 (by decide) (fun c6 => ?_) (fun c6 => ?_)
    · have hf := fd_t c6 hf
      refine fr_aload_n (pc := 21) dX8_type_21 0 rfl rfl ?_
      refine fr_getR (pc := 22) dX8_type_22 fl_X8_14 (by decide) rfl rfl ?_
      refine fr_iload_n (pc := 25) dX8_type_25 1 rfl rfl ?_
      obtain ⟨g7, hf⟩ := fd_g_e hf
      refine fr_aaldT (pc := 26) dX8_type_26 (by decide) rfl g7 rfl ?_
      refine fr_iload_n (pc := 27) dX8_type_27 2 rfl rfl ?_
      obtain ⟨q9, hc8, hf⟩ := fd_bi hf
      refine fr_callVz (pc := 28) (av := [.int a2]) dX8_type_28 yy_X6_add kw_453 (fd_isTextA g7).b (fd_isTextA g7).s rfl rfl rfl (Nat.le_of_ble_eq_true rfl) ⟨Nat.le_of_ble_eq_true rfl, Nat.le_of_ble_eq_true rfl, Nat.zero_le _, Nat.zero_le _⟩ (sX6_add (fd_isTextA g7) hc8) ?_
      refine fr_bn (pc := 31) 37 dX8_type_31 (by decide) (fun c10 => ?_) (fun c10 => ?_)
      · have hf := fd_t c10 hf
        refine fr_aload_n (pc := 37) dX8_type_37 0 rfl rfl ?_
        refine fr_iload_n (pc := 38) dX8_type_38 1 rfl rfl ?_
        obtain ⟨h12, hc11, hf⟩ := fd_bi hf
        refine fr_callVv (pc := 39) (av := [.int a1]) dX8_type_39 yy_X8_parse kw_457 (by decide) rfl rfl rfl rfl (Nat.le_of_ble_eq_true rfl) ⟨Nat.le_of_ble_eq_true rfl, Nat.le_of_ble_eq_true rfl, Nat.zero_le _, Nat.zero_le _⟩ (sX8_parse hc11) ?_
        refine fr_aload_n (pc := 42) dX8_type_42 0 rfl rfl ?_
        refine fr_getR (pc := 43) dX8_type_43 fl_X8_14 (by decide) rfl rfl ?_
        refine fr_iload_n (pc := 46) dX8_type_46 1 rfl rfl ?_
        obtain ⟨g13, hf⟩ := fd_g_e hf
        refine fr_aaldT (pc := 47) dX8_type_47 (by decide) rfl g13 rfl ?_
        refine vx_getI (pc := 48) dX8_type_48 fl_X8_73 (fd_isTextA g13).b (fd_isTextA g13).x (fd_isTextA g13).s rfl ?_
        exact vx_iretW (x := (h12.1 (2 + 3 * a1.toNatClampNeg) 2)) (pc := 51) dX8_type_51 rfl hf
      · have hf := fd_f c10 hf
        refine fr_bipush (pc := 34) (v := (-4 : Int32)) dX8_type_34 (by decide) ?_
        exact vx_iretW (x := (-4 : Int32)) (pc := 36) dX8_type_36 rfl hf
    · have hf := fd_f c6 hf
      refine fr_bipush (pc := 18) (v := (-2 : Int32)) dX8_type_18 (by decide) ?_
      exact vx_iretW (x := (-2 : Int32)) (pc := 20) dX8_type_20 rfl hf
theorem dX8_wipe_0 : decode cX8_wipe 0 = .ok (.iload_n 1, 1) := by decide +kernel
theorem dX8_wipe_1 : decode cX8_wipe 1 = .ok (.iconst 3, 1) := by decide +kernel
theorem dX8_wipe_2 : decode cX8_wipe 2 = .ok (.invokestatic 62, 3) := by decide +kernel
theorem dX8_wipe_5 : decode cX8_wipe 5 = .ok (.ifCond .ne 6, 3) := by decide +kernel
theorem dX8_wipe_8 : decode cX8_wipe 8 = .ok (.bipush (-2), 2) := by decide +kernel
theorem dX8_wipe_10 : decode cX8_wipe 10 = .ok (.ireturn, 1) := by decide +kernel
theorem dX8_wipe_11 : decode cX8_wipe 11 = .ok (.aload_n 0, 1) := by decide +kernel
theorem dX8_wipe_12 : decode cX8_wipe 12 = .ok (.getfield 14, 3) := by decide +kernel
theorem dX8_wipe_15 : decode cX8_wipe 15 = .ok (.iload_n 1, 1) := by decide +kernel
theorem dX8_wipe_16 : decode cX8_wipe 16 = .ok (.aaload, 1) := by decide +kernel
theorem dX8_wipe_17 : decode cX8_wipe 17 = .ok (.getfield 73, 3) := by decide +kernel
theorem dX8_wipe_20 : decode cX8_wipe 20 = .ok (.istore_n 2, 1) := by decide +kernel
theorem dX8_wipe_21 : decode cX8_wipe 21 = .ok (.aload_n 0, 1) := by decide +kernel
theorem dX8_wipe_22 : decode cX8_wipe 22 = .ok (.getfield 14, 3) := by decide +kernel
theorem dX8_wipe_25 : decode cX8_wipe 25 = .ok (.iload_n 1, 1) := by decide +kernel
theorem dX8_wipe_26 : decode cX8_wipe 26 = .ok (.aaload, 1) := by decide +kernel
theorem dX8_wipe_27 : decode cX8_wipe 27 = .ok (.iconst 0, 1) := by decide +kernel
theorem dX8_wipe_28 : decode cX8_wipe 28 = .ok (.putfield 73, 3) := by decide +kernel
theorem dX8_wipe_31 : decode cX8_wipe 31 = .ok (.aload_n 0, 1) := by decide +kernel
theorem dX8_wipe_32 : decode cX8_wipe 32 = .ok (.iload_n 1, 1) := by decide +kernel
theorem dX8_wipe_33 : decode cX8_wipe 33 = .ok (.invokevirtual 70, 3) := by decide +kernel
theorem dX8_wipe_36 : decode cX8_wipe 36 = .ok (.iload_n 2, 1) := by decide +kernel
theorem dX8_wipe_37 : decode cX8_wipe 37 = .ok (.ireturn, 1) := by decide +kernel
def fX8_wipe (a1 : Int32) (h : fd_H) : Option (Int32 × fd_H) :=
(fX8_isBelow a1 (3 : Int32)).bind fun r2 =>
if r2 = true then (
fd_g (fd_in a1 3) (
fd_lt ((h.1 (2 + 3 * a1.toNatClampNeg) 2)) fun x5 =>
fd_g (fd_in a1 3) (
fd_lt (fd_ui h (2 + 3 * a1.toNatClampNeg) 2 (0 : Int32)) fun h7 =>
(fX8_parse a1 h7).bind fun h9 =>
some (x5, h9))))
else (
some ((-2 : Int32), h))
set_option maxRecDepth 100000 in
set_option maxHeartbeats 4000000 in
theorem sX8_wipe {g : fd_G} {hm : fd_H} {a1 : Int32} {r : Int32 × fd_H} {h : fd_H} (hf : fX8_wipe a1 h = some r) : fd_S g mX8_wipe 5 [.ref (g.2.2.2 + 0), .int a1] fd_X0 (fd_mx h hm) (some (.int r.1)) fd_X0 (fd_mx r.2 hm) 0 0 := by
  refine fd_S.of (by decide +kernel) (Nat.le_of_ble_eq_true rfl) ?_
  unfold fX8_wipe at hf
  refine fr_loc (lv' := [(0, .ref (g.2.2.2 + 0)), (1, .int a1)]) [0, 1] rfl ?_
  refine fr_iload_n (pc := 0) dX8_wipe_0 1 rfl rfl ?_
  refine fr_iconst (pc := 1) (v := (3 : Int32)) dX8_wipe_1 (by decide) ?_
  obtain ⟨r2, hc1, hf⟩ := fd_bi hf
  refine fr_callSz (pc := 2) (av := [.int a1, .int (3 : Int32)]) dX8_wipe_2 yy_X8_isBelow kw_111 rfl rfl (Nat.le_of_ble_eq_true rfl) ⟨Nat.le_of_ble_eq_true rfl, Nat.le_of_ble_eq_true rfl, Nat.zero_le _, Nat.zero_le _⟩ (sX8_isBelow hc1) ?_
  refine fr_bn (pc := 5) 11 dX8_wipe_5 (by decide) (fun c3 => ?_) (fun c3 => ?_)
  · have hf := fd_t c3 hf
    refine fr_aload_n (pc := 11) dX8_wipe_11 0 rfl rfl ?_
    refine fr_getR (pc := 12) dX8_wipe_12 fl_X8_14 (by decide) rfl rfl ?_
    refine fr_iload_n (pc := 15) dX8_wipe_15 1 rfl rfl ?_
    obtain ⟨g4, hf⟩ := fd_g_e hf
    refine fr_aaldT (pc := 16) dX8_wipe_16 (by decide) rfl g4 rfl ?_
    refine vx_getI (pc := 17) dX8_wipe_17 fl_X8_73 (fd_isTextA g4).b (fd_isTextA g4).x (fd_isTextA g4).s rfl ?_
    obtain ⟨x5, ex5, hf⟩ := fd_lt_e hf
    refine fr_nmi ex5 ?_
    refine fr_istore_n (pc := 20) (lv' := [(2, .int x5), (0, .ref (g.2.2.2 + 0)), (1, .int a1)]) dX8_wipe_20 rfl (by decide) rfl ?_
    refine fr_aload_n (pc := 21) dX8_wipe_21 1 rfl rfl ?_
    refine fr_getR (pc := 22) dX8_wipe_22 fl_X8_14 (by decide) rfl rfl ?_
    refine fr_iload_n (pc := 25) dX8_wipe_25 2 rfl rfl ?_
    obtain ⟨g6, hf⟩ := fd_g_e hf
    refine fr_aaldT (pc := 26) dX8_wipe_26 (by decide) rfl g6 rfl ?_
    refine fr_iconst (pc := 27) (v := (0 : Int32)) dX8_wipe_27 (by decide) ?_
    obtain ⟨h7, eh7, hf⟩ := fd_lt_e hf
    refine vx_putI (pc := 28) dX8_wipe_28 fl_X8_73 ft_X6_2 (fd_isTextA g6).b (fd_isTextA g6).x (fd_isTextA g6).s rfl eh7 ?_
    refine fr_aload_n (pc := 31) dX8_wipe_31 1 rfl rfl ?_
    refine fr_iload_n (pc := 32) dX8_wipe_32 2 rfl rfl ?_
    obtain ⟨h9, hc8, hf⟩ := fd_bi hf
    refine fr_callVv (pc := 33) (av := [.int a1]) dX8_wipe_33 yy_X8_parse kw_457 (by decide) rfl rfl rfl rfl (Nat.le_of_ble_eq_true rfl) ⟨Nat.le_of_ble_eq_true rfl, Nat.le_of_ble_eq_true rfl, Nat.zero_le _, Nat.zero_le _⟩ (sX8_parse hc8) ?_
    refine fr_iload_n (pc := 36) dX8_wipe_36 0 rfl rfl ?_
    exact vx_iretW (x := x5) (pc := 37) dX8_wipe_37 rfl hf
  · have hf := fd_f c3 hf
    refine fr_bipush (pc := 8) (v := (-2 : Int32)) dX8_wipe_8 (by decide) ?_
    exact vx_iretW (x := (-2 : Int32)) (pc := 10) dX8_wipe_10 rfl hf
theorem dX8_undo_0 : decode cX8_undo 0 = .ok (.iload_n 1, 1) := by decide +kernel
theorem dX8_undo_1 : decode cX8_undo 1 = .ok (.iconst 3, 1) := by decide +kernel
theorem dX8_undo_2 : decode cX8_undo 2 = .ok (.invokestatic 62, 3) := by decide +kernel
theorem dX8_undo_5 : decode cX8_undo 5 = .ok (.ifCond .ne 6, 3) := by decide +kernel
theorem dX8_undo_8 : decode cX8_undo 8 = .ok (.bipush (-2), 2) := by decide +kernel
theorem dX8_undo_10 : decode cX8_undo 10 = .ok (.ireturn, 1) := by decide +kernel
theorem dX8_undo_11 : decode cX8_undo 11 = .ok (.aload_n 0, 1) := by decide +kernel
theorem dX8_undo_12 : decode cX8_undo 12 = .ok (.getfield 14, 3) := by decide +kernel
theorem dX8_undo_15 : decode cX8_undo 15 = .ok (.iload_n 1, 1) := by decide +kernel
theorem dX8_undo_16 : decode cX8_undo 16 = .ok (.aaload, 1) := by decide +kernel
theorem dX8_undo_17 : decode cX8_undo 17 = .ok (.getfield 73, 3) := by decide +kernel
theorem dX8_undo_20 : decode cX8_undo 20 = .ok (.ifCond .ne 6, 3) := by decide +kernel
theorem dX8_undo_23 : decode cX8_undo 23 = .ok (.bipush (-3), 2) := by decide +kernel
theorem dX8_undo_25 : decode cX8_undo 25 = .ok (.ireturn, 1) := by decide +kernel
theorem dX8_undo_26 : decode cX8_undo 26 = .ok (.aload_n 0, 1) := by decide +kernel
theorem dX8_undo_27 : decode cX8_undo 27 = .ok (.getfield 14, 3) := by decide +kernel
theorem dX8_undo_30 : decode cX8_undo 30 = .ok (.iload_n 1, 1) := by decide +kernel
theorem dX8_undo_31 : decode cX8_undo 31 = .ok (.aaload, 1) := by decide +kernel
theorem dX8_undo_32 : decode cX8_undo 32 = .ok (.dup, 1) := by decide +kernel
theorem dX8_undo_33 : decode cX8_undo 33 = .ok (.getfield 73, 3) := by decide +kernel
theorem dX8_undo_36 : decode cX8_undo 36 = .ok (.iconst 1, 1) := by decide +kernel
theorem dX8_undo_37 : decode cX8_undo 37 = .ok (.isub, 1) := by decide +kernel
theorem dX8_undo_38 : decode cX8_undo 38 = .ok (.putfield 73, 3) := by decide +kernel
theorem dX8_undo_41 : decode cX8_undo 41 = .ok (.aload_n 0, 1) := by decide +kernel
theorem dX8_undo_42 : decode cX8_undo 42 = .ok (.iload_n 1, 1) := by decide +kernel
theorem dX8_undo_43 : decode cX8_undo 43 = .ok (.invokevirtual 70, 3) := by decide +kernel
theorem dX8_undo_46 : decode cX8_undo 46 = .ok (.aload_n 0, 1) := by decide +kernel
theorem dX8_undo_47 : decode cX8_undo 47 = .ok (.getfield 14, 3) := by decide +kernel
theorem dX8_undo_50 : decode cX8_undo 50 = .ok (.iload_n 1, 1) := by decide +kernel
theorem dX8_undo_51 : decode cX8_undo 51 = .ok (.aaload, 1) := by decide +kernel
theorem dX8_undo_52 : decode cX8_undo 52 = .ok (.getfield 73, 3) := by decide +kernel
theorem dX8_undo_55 : decode cX8_undo 55 = .ok (.ireturn, 1) := by decide +kernel
def fX8_undo (a1 : Int32) (h : fd_H) : Option (Int32 × fd_H) :=
(fX8_isBelow a1 (3 : Int32)).bind fun r2 =>
if r2 = true then (
fd_g (fd_in a1 3) (
if (h.1 (2 + 3 * a1.toNatClampNeg) 2) = 0 then (
some ((-3 : Int32), h))
else (
fd_g (fd_in a1 3) (
fd_lt (fd_ui h (2 + 3 * a1.toNatClampNeg) 2 ((h.1 (2 + 3 * a1.toNatClampNeg) 2) - (1 : Int32))) fun h7 =>
(fX8_parse a1 h7).bind fun h9 =>
fd_g (fd_in a1 3) (
some ((h9.1 (2 + 3 * a1.toNatClampNeg) 2), h9))))))
else (
some ((-2 : Int32), h))
set_option maxRecDepth 100000 in
set_option maxHeartbeats 4000000 in
theorem sX8_undo {g : fd_G} {hm : fd_H} {a1 : Int32} {r : Int32 × fd_H} {h : fd_H} (hf : fX8_undo a1 h = some r) : fd_S g mX8_undo 5 [.ref (g.2.2.2 + 0), .int a1] fd_X0 (fd_mx h hm) (some (.int r.1)) fd_X0 (fd_mx r.2 hm) 0 0 := by
  refine fd_S.of (by decide +kernel) (Nat.le_of_ble_eq_true rfl) ?_
  unfold fX8_undo at hf
  refine fr_loc (lv' := [(0, .ref (g.2.2.2 + 0)), (1, .int a1)]) [0, 1] rfl ?_
  refine fr_iload_n (pc := 0) dX8_undo_0 1 rfl rfl ?_
  refine fr_iconst (pc := 1) (v := (3 : Int32)) dX8_undo_1 (by decide) ?_
  obtain ⟨r2, hc1, hf⟩ := fd_bi hf
  refine fr_callSz (pc := 2) (av := [.int a1, .int (3 : Int32)]) dX8_undo_2 yy_X8_isBelow kw_111 rfl rfl (Nat.le_of_ble_eq_true rfl) ⟨Nat.le_of_ble_eq_true rfl, Nat.le_of_ble_eq_true rfl, Nat.zero_le _, Nat.zero_le _⟩ (sX8_isBelow hc1) ?_
  refine fr_bn (pc := 5) 11 dX8_undo_5 (by decide) (fun c3 => ?_) (fun c3 => ?_)
  · have hf := fd_t c3 hf
    refine fr_aload_n (pc := 11) dX8_undo_11 0 rfl rfl ?_
    refine fr_getR (pc := 12) dX8_undo_12 fl_X8_14 (by decide) rfl rfl ?_
    refine fr_iload_n (pc := 15) dX8_undo_15 1 rfl rfl ?_
    obtain ⟨g4, hf⟩ := fd_g_e hf
    refine fr_aaldT (pc := 16) dX8_undo_16 (by decide) rfl g4 rfl ?_
    refine vx_getI (pc := 17) dX8_undo_17 fl_X8_73 (fd_isTextA g4).b (fd_isTextA g4).x (fd_isTextA g4).s rfl ?_
    refine fr_if_ne (pc := 20) 26 dX8_undo_20 (by decide) (fun c5 => ?_) (fun c5 => ?_)
    · have hf := fd_f c5 hf
      refine fr_aload_n (pc := 26) dX8_undo_26 0 rfl rfl ?_
      refine fr_getR (pc := 27) dX8_undo_27 fl_X8_14 (by decide) rfl rfl ?_
      refine fr_iload_n (pc := 30) dX8_undo_30 1 rfl rfl ?_
      obtain ⟨g6, hf⟩ := fd_g_e hf
      refine fr_aaldT (pc := 31) dX8_undo_31 (by decide) rfl g6 rfl ?_
      refine fr_dup (pc := 32) dX8_undo_32 rfl ?_
      refine vx_getI (pc := 33) dX8_undo_33 fl_X8_73 (fd_isTextA g6).b (fd_isTextA g6).x (fd_isTextA g6).s rfl ?_
      refine fr_iconst (pc := 36) (v := (1 : Int32)) dX8_undo_36 (by decide) ?_
      refine fr_isub (pc := 37) dX8_undo_37 ?_
      obtain ⟨h7, eh7, hf⟩ := fd_lt_e hf
      refine vx_putI (pc := 38) dX8_undo_38 fl_X8_73 ft_X6_2 (fd_isTextA g6).b (fd_isTextA g6).x (fd_isTextA g6).s rfl eh7 ?_
      refine fr_aload_n (pc := 41) dX8_undo_41 0 rfl rfl ?_
      refine fr_iload_n (pc := 42) dX8_undo_42 1 rfl rfl ?_
      obtain ⟨h9, hc8, hf⟩ := fd_bi hf
      refine fr_callVv (pc := 43) (av := [.int a1]) dX8_undo_43 yy_X8_parse kw_457 (by decide) rfl rfl rfl rfl (Nat.le_of_ble_eq_true rfl) ⟨Nat.le_of_ble_eq_true rfl, Nat.le_of_ble_eq_true rfl, Nat.zero_le _, Nat.zero_le _⟩ (sX8_parse hc8) ?_
      refine fr_aload_n (pc := 46) dX8_undo_46 0 rfl rfl ?_
      refine fr_getR (pc := 47) dX8_undo_47 fl_X8_14 (by decide) rfl rfl ?_
      refine fr_iload_n (pc := 50) dX8_undo_50 1 rfl rfl ?_
      obtain ⟨g10, hf⟩ := fd_g_e hf
      refine fr_aaldT (pc := 51) dX8_undo_51 (by decide) rfl g10 rfl ?_
      refine vx_getI (pc := 52) dX8_undo_52 fl_X8_73 (fd_isTextA g10).b (fd_isTextA g10).x (fd_isTextA g10).s rfl ?_
      exact vx_iretW (x := (h9.1 (2 + 3 * a1.toNatClampNeg) 2)) (pc := 55) dX8_undo_55 rfl hf
    · have hf := fd_t c5 hf
      refine fr_bipush (pc := 23) (v := (-3 : Int32)) dX8_undo_23 (by decide) ?_
      exact vx_iretW (x := (-3 : Int32)) (pc := 25) dX8_undo_25 rfl hf
  · have hf := fd_f c3 hf
    refine fr_bipush (pc := 8) (v := (-2 : Int32)) dX8_undo_8 (by decide) ?_
    exact vx_iretW (x := (-2 : Int32)) (pc := 10) dX8_undo_10 rfl hf
theorem dX8_cloud_0 : decode cX8_cloud 0 = .ok (.iload_n 1, 1) := by decide +kernel
theorem dX8_cloud_1 : decode cX8_cloud 1 = .ok (.bipush 40, 2) := by decide +kernel
theorem dX8_cloud_3 : decode cX8_cloud 3 = .ok (.invokestatic 62, 3) := by decide +kernel
theorem dX8_cloud_6 : decode cX8_cloud 6 = .ok (.ifCond .eq 19, 3) := by decide +kernel
theorem dX8_cloud_9 : decode cX8_cloud 9 = .ok (.aload_n 0, 1) := by decide +kernel
theorem dX8_cloud_10 : decode cX8_cloud 10 = .ok (.aload_n 0, 1) := by decide +kernel
theorem dX8_cloud_11 : decode cX8_cloud 11 = .ok (.getfield 21, 3) := by decide +kernel
theorem dX8_cloud_14 : decode cX8_cloud 14 = .ok (.getfield 117, 3) := by decide +kernel
theorem dX8_cloud_17 : decode cX8_cloud 17 = .ok (.iload_n 1, 1) := by decide +kernel
theorem dX8_cloud_18 : decode cX8_cloud 18 = .ok (.iconst 0, 1) := by decide +kernel
theorem dX8_cloud_19 : decode cX8_cloud 19 = .ok (.invokevirtual 120, 3) := by decide +kernel
theorem dX8_cloud_22 : decode cX8_cloud 22 = .ok (.goto 5, 3) := by decide +kernel
theorem dX8_cloud_25 : decode cX8_cloud 25 = .ok (.bipush (-2), 2) := by decide +kernel
theorem dX8_cloud_27 : decode cX8_cloud 27 = .ok (.ireturn, 1) := by decide +kernel
def fX8_cloud (a1 : Int32) (h : fd_H) : Option (Int32 × fd_H) :=
(fX8_isBelow a1 (40 : Int32)).bind fun r2 =>
if r2 = true then (
(fX8_addMark 19 a1 (0 : Int32) h).bind fun q5 =>
some (q5.1, q5.2))
else (
some ((-2 : Int32), h))
set_option maxRecDepth 100000 in
set_option maxHeartbeats 4000000 in
theorem sX8_cloud {g : fd_G} {hm : fd_H} {a1 : Int32} {r : Int32 × fd_H} {h : fd_H} (hf : fX8_cloud a1 h = some r) : fd_S g mX8_cloud 5 [.ref (g.2.2.2 + 0), .int a1] fd_X0 (fd_mx h hm) (some (.int r.1)) fd_X0 (fd_mx r.2 hm) 0 0 := by
  refine fd_S.of (by decide +kernel) (Nat.le_of_ble_eq_true rfl) ?_
  unfold fX8_cloud at hf
  refine fr_loc (lv' := [(0, .ref (g.2.2.2 + 0)), (1, .int a1)]) [0, 1] rfl ?_
  refine fr_iload_n (pc := 0) dX8_cloud_0 1 rfl rfl ?_
  refine fr_bipush (pc := 1) (v := (40 : Int32)) dX8_cloud_1 (by decide) ?_
  obtain ⟨r2, hc1, hf⟩ := fd_bi hf
  refine fr_callSz (pc := 3) (av := [.int a1, .int (40 : Int32)]) dX8_cloud_3 yy_X8_isBelow kw_111 rfl rfl (Nat.le_of_ble_eq_true rfl) ⟨Nat.le_of_ble_eq_true rfl, Nat.le_of_ble_eq_true rfl, Nat.zero_le _, Nat.zero_le _⟩ (sX8_isBelow hc1) ?_
  refine fr_bz (pc := 6) 25 dX8_cloud_6 (by decide) (fun c3 => ?_) (fun c3 => ?_)
  · have hf := fd_f c3 hf
    refine fr_bipush (pc := 25) (v := (-2 : Int32)) dX8_cloud_25 (by decide) ?_
    exact vx_iretW (x := (-2 : Int32)) (pc := 27) dX8_cloud_27 rfl hf
  · have hf := fd_t c3 hf
    refine fr_aload_n (pc := 9) dX8_cloud_9 0 rfl rfl ?_
    refine fr_aload_n (pc := 10) dX8_cloud_10 0 rfl rfl ?_
    refine fr_getR (pc := 11) dX8_cloud_11 fl_X8_21 (by decide) rfl rfl ?_
    refine fr_getR (pc := 14) dX8_cloud_14 fl_X8_117 (by decide) rfl rfl ?_
    refine fr_iload_n (pc := 17) dX8_cloud_17 1 rfl rfl ?_
    refine fr_iconst (pc := 18) (v := (0 : Int32)) dX8_cloud_18 (by decide) ?_
    obtain ⟨q5, hc4, hf⟩ := fd_bi hf
    refine fr_callVi (pc := 19) (av := [.ref (g.2.2.2 + 19), .int a1, .int (0 : Int32)]) dX8_cloud_19 yy_X8_addMark kw_461 (by decide) rfl rfl rfl rfl (Nat.le_of_ble_eq_true rfl) ⟨Nat.le_of_ble_eq_true rfl, Nat.le_of_ble_eq_true rfl, Nat.zero_le _, Nat.zero_le _⟩ (sX8_addMark is_19 hc4) ?_
    refine fr_goto (pc := 22) 27 dX8_cloud_22 (by decide) ?_
    exact vx_iretW (x := q5.1) (pc := 27) dX8_cloud_27 rfl hf
theorem dX8_smoke_0 : decode cX8_smoke 0 = .ok (.iload_n 1, 1) := by decide +kernel
theorem dX8_smoke_1 : decode cX8_smoke 1 = .ok (.bipush 40, 2) := by decide +kernel
theorem dX8_smoke_3 : decode cX8_smoke 3 = .ok (.invokestatic 62, 3) := by decide +kernel
theorem dX8_smoke_6 : decode cX8_smoke 6 = .ok (.ifCond .eq 12, 3) := by decide +kernel
theorem dX8_smoke_9 : decode cX8_smoke 9 = .ok (.iload_n 2, 1) := by decide +kernel
theorem dX8_smoke_10 : decode cX8_smoke 10 = .ok (.bipush 8, 2) := by decide +kernel
theorem dX8_smoke_12 : decode cX8_smoke 12 = .ok (.invokestatic 62, 3) := by decide +kernel
theorem dX8_smoke_15 : decode cX8_smoke 15 = .ok (.ifCond .ne 6, 3) := by decide +kernel
theorem dX8_smoke_18 : decode cX8_smoke 18 = .ok (.bipush (-2), 2) := by decide +kernel
theorem dX8_smoke_20 : decode cX8_smoke 20 = .ok (.ireturn, 1) := by decide +kernel
theorem dX8_smoke_21 : decode cX8_smoke 21 = .ok (.aload_n 0, 1) := by decide +kernel
theorem dX8_smoke_22 : decode cX8_smoke 22 = .ok (.aload_n 0, 1) := by decide +kernel
theorem dX8_smoke_23 : decode cX8_smoke 23 = .ok (.getfield 21, 3) := by decide +kernel
theorem dX8_smoke_26 : decode cX8_smoke 26 = .ok (.getfield 124, 3) := by decide +kernel
theorem dX8_smoke_29 : decode cX8_smoke 29 = .ok (.iload_n 1, 1) := by decide +kernel
theorem dX8_smoke_30 : decode cX8_smoke 30 = .ok (.iload_n 2, 1) := by decide +kernel
theorem dX8_smoke_31 : decode cX8_smoke 31 = .ok (.invokevirtual 120, 3) := by decide +kernel
theorem dX8_smoke_34 : decode cX8_smoke 34 = .ok (.ireturn, 1) := by decide +kernel
def fX8_smoke (a1 : Int32) (a2 : Int32) (h : fd_H) : Option (Int32 × fd_H) :=
(fX8_isBelow a1 (40 : Int32)).bind fun r2 =>
if r2 = true then (
(fX8_isBelow a2 (8 : Int32)).bind fun r5 =>
if r5 = true then (
(fX8_addMark 26 a1 a2 h).bind fun q8 =>
some (q8.1, q8.2))
else (
some ((-2 : Int32), h)))
else (
some ((-2 : Int32), h))
set_option maxRecDepth 100000 in
set_option maxHeartbeats 4000000 in
theorem sX8_smoke {g : fd_G} {hm : fd_H} {a1 : Int32} {a2 : Int32} {r : Int32 × fd_H} {h : fd_H} (hf : fX8_smoke a1 a2 h = some r) : fd_S g mX8_smoke 5 [.ref (g.2.2.2 + 0), .int a1, .int a2] fd_X0 (fd_mx h hm) (some (.int r.1)) fd_X0 (fd_mx r.2 hm) 0 0 := by
  refine fd_S.of (by decide +kernel) (Nat.le_of_ble_eq_true rfl) ?_
  unfold fX8_smoke at hf
  refine fr_loc (lv' := [(0, .ref (g.2.2.2 + 0)), (1, .int a1), (2, .int a2)]) [0, 1, 2] rfl ?_
  refine fr_iload_n (pc := 0) dX8_smoke_0 1 rfl rfl ?_
  refine fr_bipush (pc := 1) (v := (40 : Int32)) dX8_smoke_1 (by decide) ?_
  obtain ⟨r2, hc1, hf⟩ := fd_bi hf
  refine fr_callSz (pc := 3) (av := [.int a1, .int (40 : Int32)]) dX8_smoke_3 yy_X8_isBelow kw_111 rfl rfl (Nat.le_of_ble_eq_true rfl) ⟨Nat.le_of_ble_eq_true rfl, Nat.le_of_ble_eq_true rfl, Nat.zero_le _, Nat.zero_le _⟩ (sX8_isBelow hc1) ?_
  refine fr_bz (pc := 6) 18 dX8_smoke_6 (by decide) (fun c3 => ?_) (fun c3 => ?_)
  · have hf := fd_f c3 hf
    refine fr_bipush (pc := 18) (v := (-2 : Int32)) dX8_smoke_18 (by decide) ?_
    exact vx_iretW (x := (-2 : Int32)) (pc := 20) dX8_smoke_20 rfl hf
  · have hf := fd_t c3 hf
    refine fr_iload_n (pc := 9) dX8_smoke_9 2 rfl rfl ?_
    refine fr_bipush (pc := 10) (v := (8 : Int32)) dX8_smoke_10 (by decide) ?_
    obtain ⟨r5, hc4, hf⟩ := fd_bi hf
    refine fr_callSz (pc := 12) (av := [.int a2, .int (8 : Int32)]) dX8_smoke_12 yy_X8_isBelow kw_111 rfl rfl (Nat.le_of_ble_eq_true rfl) ⟨Nat.le_of_ble_eq_true rfl, Nat.le_of_ble_eq_true rfl, Nat.zero_le _, Nat.zero_le _⟩ (sX8_isBelow hc4) ?_
    refine fr_bn (pc := 15) 21 dX8_smoke_15 (by decide) (fun c6 => ?_) (fun c6 => ?_)
    · have hf := fd_t c6 hf
      refine fr_aload_n (pc := 21) dX8_smoke_21 0 rfl rfl ?_
      refine fr_aload_n (pc := 22) dX8_smoke_22 0 rfl rfl ?_
      refine fr_getR (pc := 23) dX8_smoke_23 fl_X8_21 (by decide) rfl rfl ?_
      refine fr_getR (pc := 26) dX8_smoke_26 fl_X8_124 (by decide) rfl rfl ?_
      refine fr_iload_n (pc := 29) dX8_smoke_29 1 rfl rfl ?_
      refine fr_iload_n (pc := 30) dX8_smoke_30 2 rfl rfl ?_
      obtain ⟨q8, hc7, hf⟩ := fd_bi hf
      refine fr_callVi (pc := 31) (av := [.ref (g.2.2.2 + 26), .int a1, .int a2]) dX8_smoke_31 yy_X8_addMark kw_461 (by decide) rfl rfl rfl rfl (Nat.le_of_ble_eq_true rfl) ⟨Nat.le_of_ble_eq_true rfl, Nat.le_of_ble_eq_true rfl, Nat.zero_le _, Nat.zero_le _⟩ (sX8_addMark is_26 hc7) ?_
      exact vx_iretW (x := q8.1) (pc := 34) dX8_smoke_34 rfl hf
    · have hf := fd_f c6 hf
      refine fr_bipush (pc := 18) (v := (-2 : Int32)) dX8_smoke_18 (by decide) ?_
      exact vx_iretW (x := (-2 : Int32)) (pc := 20) dX8_smoke_20 rfl hf
theorem dX8_ice_0 : decode cX8_ice 0 = .ok (.iload_n 1, 1) := by decide +kernel
theorem dX8_ice_1 : decode cX8_ice 1 = .ok (.bipush 40, 2) := by decide +kernel
theorem dX8_ice_3 : decode cX8_ice 3 = .ok (.invokestatic 62, 3) := by decide +kernel
theorem dX8_ice_6 : decode cX8_ice 6 = .ok (.ifCond .eq 12, 3) := by decide +kernel
theorem dX8_ice_9 : decode cX8_ice 9 = .ok (.iload_n 2, 1) := by decide +kernel
theorem dX8_ice_10 : decode cX8_ice 10 = .ok (.bipush 8, 2) := by decide +kernel
theorem dX8_ice_12 : decode cX8_ice 12 = .ok (.invokestatic 62, 3) := by decide +kernel
theorem dX8_ice_15 : decode cX8_ice 15 = .ok (.ifCond .ne 6, 3) := by decide +kernel
theorem dX8_ice_18 : decode cX8_ice 18 = .ok (.bipush (-2), 2) := by decide +kernel
theorem dX8_ice_20 : decode cX8_ice 20 = .ok (.ireturn, 1) := by decide +kernel
theorem dX8_ice_21 : decode cX8_ice 21 = .ok (.aload_n 0, 1) := by decide +kernel
theorem dX8_ice_22 : decode cX8_ice 22 = .ok (.aload_n 0, 1) := by decide +kernel
theorem dX8_ice_23 : decode cX8_ice 23 = .ok (.getfield 21, 3) := by decide +kernel
theorem dX8_ice_26 : decode cX8_ice 26 = .ok (.getfield 127, 3) := by decide +kernel
theorem dX8_ice_29 : decode cX8_ice 29 = .ok (.iload_n 1, 1) := by decide +kernel
theorem dX8_ice_30 : decode cX8_ice 30 = .ok (.iload_n 2, 1) := by decide +kernel
theorem dX8_ice_31 : decode cX8_ice 31 = .ok (.invokevirtual 120, 3) := by decide +kernel
theorem dX8_ice_34 : decode cX8_ice 34 = .ok (.ireturn, 1) := by decide +kernel
def fX8_ice (a1 : Int32) (a2 : Int32) (h : fd_H) : Option (Int32 × fd_H) :=
(fX8_isBelow a1 (40 : Int32)).bind fun r2 =>
if r2 = true then (
(fX8_isBelow a2 (8 : Int32)).bind fun r5 =>
if r5 = true then (
(fX8_addMark 33 a1 a2 h).bind fun q8 =>
some (q8.1, q8.2))
else (
some ((-2 : Int32), h)))
else (
some ((-2 : Int32), h))
set_option maxRecDepth 100000 in
set_option maxHeartbeats 4000000 in
theorem sX8_ice {g : fd_G} {hm : fd_H} {a1 : Int32} {a2 : Int32} {r : Int32 × fd_H} {h : fd_H} (hf : fX8_ice a1 a2 h = some r) : fd_S g mX8_ice 5 [.ref (g.2.2.2 + 0), .int a1, .int a2] fd_X0 (fd_mx h hm) (some (.int r.1)) fd_X0 (fd_mx r.2 hm) 0 0 := by
  refine fd_S.of (by decide +kernel) (Nat.le_of_ble_eq_true rfl) ?_
  unfold fX8_ice at hf
  refine fr_loc (lv' := [(0, .ref (g.2.2.2 + 0)), (1, .int a1), (2, .int a2)]) [0, 1, 2] rfl ?_
  refine fr_iload_n (pc := 0) dX8_ice_0 1 rfl rfl ?_
  refine fr_bipush (pc := 1) (v := (40 : Int32)) dX8_ice_1 (by decide) ?_
  obtain ⟨r2, hc1, hf⟩ := fd_bi hf
  refine fr_callSz (pc := 3) (av := [.int a1, .int (40 : Int32)]) dX8_ice_3 yy_X8_isBelow kw_111 rfl rfl (Nat.le_of_ble_eq_true rfl) ⟨Nat.le_of_ble_eq_true rfl, Nat.le_of_ble_eq_true rfl, Nat.zero_le _, Nat.zero_le _⟩ (sX8_isBelow hc1) ?_
  refine fr_bz (pc := 6) 18 dX8_ice_6 (by decide) (fun c3 => ?_) (fun c3 => ?_)
  · have hf := fd_f c3 hf
    refine fr_bipush (pc := 18) (v := (-2 : Int32)) dX8_ice_18 (by decide) ?_
    exact vx_iretW (x := (-2 : Int32)) (pc := 20) dX8_ice_20 rfl hf
  · have hf := fd_t c3 hf
    refine fr_iload_n (pc := 9) dX8_ice_9 2 rfl rfl ?_
    refine fr_bipush (pc := 10) (v := (8 : Int32)) dX8_ice_10 (by decide) ?_
    obtain ⟨r5, hc4, hf⟩ := fd_bi hf
    refine fr_callSz (pc := 12) (av := [.int a2, .int (8 : Int32)]) dX8_ice_12 yy_X8_isBelow kw_111 rfl rfl (Nat.le_of_ble_eq_true rfl) ⟨Nat.le_of_ble_eq_true rfl, Nat.le_of_ble_eq_true rfl, Nat.zero_le _, Nat.zero_le _⟩ (sX8_isBelow hc4) ?_
    refine fr_bn (pc := 15) 21 dX8_ice_15 (by decide) (fun c6 => ?_) (fun c6 => ?_)
    · have hf := fd_t c6 hf
      refine fr_aload_n (pc := 21) dX8_ice_21 0 rfl rfl ?_
      refine fr_aload_n (pc := 22) dX8_ice_22 0 rfl rfl ?_
      refine fr_getR (pc := 23) dX8_ice_23 fl_X8_21 (by decide) rfl rfl ?_
      refine fr_getR (pc := 26) dX8_ice_26 fl_X8_127 (by decide) rfl rfl ?_
      refine fr_iload_n (pc := 29) dX8_ice_29 1 rfl rfl ?_
      refine fr_iload_n (pc := 30) dX8_ice_30 2 rfl rfl ?_
      obtain ⟨q8, hc7, hf⟩ := fd_bi hf
      refine fr_callVi (pc := 31) (av := [.ref (g.2.2.2 + 33), .int a1, .int a2]) dX8_ice_31 yy_X8_addMark kw_461 (by decide) rfl rfl rfl rfl (Nat.le_of_ble_eq_true rfl) ⟨Nat.le_of_ble_eq_true rfl, Nat.le_of_ble_eq_true rfl, Nat.zero_le _, Nat.zero_le _⟩ (sX8_addMark is_33 hc7) ?_
      exact vx_iretW (x := q8.1) (pc := 34) dX8_ice_34 rfl hf
    · have hf := fd_f c6 hf
      refine fr_bipush (pc := 18) (v := (-2 : Int32)) dX8_ice_18 (by decide) ?_
      exact vx_iretW (x := (-2 : Int32)) (pc := 20) dX8_ice_20 rfl hf
theorem dX8_write_0 : decode cX8_write 0 = .ok (.iload_n 1, 1) := by decide +kernel
theorem dX8_write_1 : decode cX8_write 1 = .ok (.iconst 2, 1) := by decide +kernel
theorem dX8_write_2 : decode cX8_write 2 = .ok (.invokestatic 62, 3) := by decide +kernel
theorem dX8_write_5 : decode cX8_write 5 = .ok (.ifCond .eq 11, 3) := by decide +kernel
theorem dX8_write_8 : decode cX8_write 8 = .ok (.iload_n 2, 1) := by decide +kernel
theorem dX8_write_9 : decode cX8_write 9 = .ok (.iconst 4, 1) := by decide +kernel
theorem dX8_write_10 : decode cX8_write 10 = .ok (.invokestatic 62, 3) := by decide +kernel
theorem dX8_write_13 : decode cX8_write 13 = .ok (.ifCond .ne 6, 3) := by decide +kernel
theorem dX8_write_16 : decode cX8_write 16 = .ok (.bipush (-2), 2) := by decide +kernel
theorem dX8_write_18 : decode cX8_write 18 = .ok (.ireturn, 1) := by decide +kernel
theorem dX8_write_19 : decode cX8_write 19 = .ok (.aload_n 0, 1) := by decide +kernel
theorem dX8_write_20 : decode cX8_write 20 = .ok (.getfield 54, 3) := by decide +kernel
theorem dX8_write_23 : decode cX8_write 23 = .ok (.iload_n 2, 1) := by decide +kernel
theorem dX8_write_24 : decode cX8_write 24 = .ok (.aaload, 1) := by decide +kernel
theorem dX8_write_25 : decode cX8_write 25 = .ok (.astore_n 3, 1) := by decide +kernel
theorem dX8_write_26 : decode cX8_write 26 = .ok (.aload_n 3, 1) := by decide +kernel
theorem dX8_write_27 : decode cX8_write 27 = .ok (.getfield 192, 3) := by decide +kernel
theorem dX8_write_30 : decode cX8_write 30 = .ok (.ifCond .eq 9, 3) := by decide +kernel
theorem dX8_write_33 : decode cX8_write 33 = .ok (.aload_n 0, 1) := by decide +kernel
theorem dX8_write_34 : decode cX8_write 34 = .ok (.iconst 1, 1) := by decide +kernel
theorem dX8_write_35 : decode cX8_write 35 = .ok (.invokevirtual 196, 3) := by decide +kernel
theorem dX8_write_38 : decode cX8_write 38 = .ok (.ireturn, 1) := by decide +kernel
theorem dX8_write_39 : decode cX8_write 39 = .ok (.aload_n 3, 1) := by decide +kernel
theorem dX8_write_40 : decode cX8_write 40 = .ok (.getfield 199, 3) := by decide +kernel
theorem dX8_write_43 : decode cX8_write 43 = .ok (.bipush 40, 2) := by decide +kernel
theorem dX8_write_45 : decode cX8_write 45 = .ok (.invokestatic 265, 3) := by decide +kernel
theorem dX8_write_48 : decode cX8_write 48 = .ok (.istore 4, 2) := by decide +kernel
theorem dX8_write_50 : decode cX8_write 50 = .ok (.iconst 0, 1) := by decide +kernel
theorem dX8_write_51 : decode cX8_write 51 = .ok (.istore 5, 2) := by decide +kernel
theorem dX8_write_53 : decode cX8_write 53 = .ok (.iload 5, 2) := by decide +kernel
theorem dX8_write_55 : decode cX8_write 55 = .ok (.iload 4, 2) := by decide +kernel
theorem dX8_write_57 : decode cX8_write 57 = .ok (.if_icmp .ge 34, 3) := by decide +kernel
theorem dX8_write_60 : decode cX8_write 60 = .ok (.aload_n 3, 1) := by decide +kernel
theorem dX8_write_61 : decode cX8_write 61 = .ok (.iload 5, 2) := by decide +kernel
theorem dX8_write_63 : decode cX8_write 63 = .ok (.iload_n 1, 1) := by decide +kernel
theorem dX8_write_64 : decode cX8_write 64 = .ok (.ifCond .ne 12, 3) := by decide +kernel
theorem dX8_write_67 : decode cX8_write 67 = .ok (.aload_n 0, 1) := by decide +kernel
theorem dX8_write_68 : decode cX8_write 68 = .ok (.iload 5, 2) := by decide +kernel
theorem dX8_write_70 : decode cX8_write 70 = .ok (.invokevirtual 268, 3) := by decide +kernel
theorem dX8_write_73 : decode cX8_write 73 = .ok (.goto 9, 3) := by decide +kernel
theorem dX8_write_76 : decode cX8_write 76 = .ok (.aload_n 0, 1) := by decide +kernel
theorem dX8_write_77 : decode cX8_write 77 = .ok (.iload 5, 2) := by decide +kernel
theorem dX8_write_79 : decode cX8_write 79 = .ok (.invokevirtual 271, 3) := by decide +kernel
theorem dX8_write_82 : decode cX8_write 82 = .ok (.invokevirtual 251, 3) := by decide +kernel
theorem dX8_write_85 : decode cX8_write 85 = .ok (.iinc 5 1, 3) := by decide +kernel
theorem dX8_write_88 : decode cX8_write 88 = .ok (.goto (-35), 3) := by decide +kernel
theorem dX8_write_91 : decode cX8_write 91 = .ok (.iload 4, 2) := by decide +kernel
theorem dX8_write_93 : decode cX8_write 93 = .ok (.ireturn, 1) := by decide +kernel
def fX8_write_L82 (a1 : Int32) (a2 : Int32) (K53 : Nat → Int32 → Int32 → fd_H → Option (Int32 × fd_H)) (v3 : Nat) (v4 : Int32) (v5 : Int32) (vs0 : Int32) (vs1 : Int32) (vs2 : Nat) (h : fd_H) : Option (Int32 × fd_H) :=
(fX4_store vs2 vs1 vs0 h).bind fun h2 =>
K53 v3 v4 (v5 + (1 : Int32)) h2
set_option maxRecDepth 100000 in
set_option maxHeartbeats 4000000 in
theorem sX8_write_L82 {g : fd_G} {hm : fd_H} {a1 : Int32} {a2 : Int32} {r : Int32 × fd_H} {K53 : Nat → Int32 → Int32 → fd_H → Option (Int32 × fd_H)} (hK53 : ∀ (v3 : Nat) (v4 : Int32) (v5 : Int32) (h : fd_H) (pv3 : fd_isSheet v3), K53 v3 v4 v5 h = some r → fd_A g mX8_write fd_E (fd_rm 5 0 0) (fd_Q g (some (.int r.1)) fd_X0 (fd_mx r.2 hm) 0 0) 53 [(0, .ref (g.2.2.2 + 0)), (1, .int a1), (3, .ref (g.2.2.2 + v3)), (4, .int v4), (5, .int v5)] [] fd_X0 (fd_mx h hm) 0 0) : ∀ (v3 : Nat) (v4 : Int32) (v5 : Int32) (vs0 : Int32) (vs1 : Int32) (vs2 : Nat) (h : fd_H) (pv3 : fd_isSheet v3) (pvs2 : fd_isSheet vs2), fX8_write_L82 a1 a2 K53 v3 v4 v5 vs0 vs1 vs2 h = some r → fd_A g mX8_write fd_E (fd_rm 5 0 0) (fd_Q g (some (.int r.1)) fd_X0 (fd_mx r.2 hm) 0 0) 82 [(0, .ref (g.2.2.2 + 0)), (1, .int a1), (3, .ref (g.2.2.2 + v3)), (4, .int v4), (5, .int v5)] [.int vs0, .int vs1, .ref (g.2.2.2 + vs2)] fd_X0 (fd_mx h hm) 0 0 := by
  intro v3 v4 v5 vs0 vs1 vs2 h pv3 pvs2 hf
  unfold fX8_write_L82 at hf
  obtain ⟨h2, hc1, hf⟩ := fd_bi hf
  refine fr_callVv (pc := 82) (av := [.int vs1, .int vs0]) dX8_write_82 yy_X4_store kw_217 pvs2.b pvs2.s rfl rfl rfl (Nat.le_of_ble_eq_true rfl) ⟨Nat.le_of_ble_eq_true rfl, Nat.le_of_ble_eq_true rfl, Nat.zero_le _, Nat.zero_le _⟩ (sX4_store pvs2 hc1) ?_
  refine fr_iinc (pc := 85) (v := (v5 + (1 : Int32))) (lv' := [(5, .int (v5 + (1 : Int32))), (0, .ref (g.2.2.2 + 0)), (1, .int a1), (3, .ref (g.2.2.2 + v3)), (4, .int v4)]) dX8_write_85 4 rfl rfl (by decide) rfl ?_
  refine fr_goto (pc := 88) 53 dX8_write_88 (by decide) ?_
  refine fr_loc (lv' := [(0, .ref (g.2.2.2 + 0)), (1, .int a1), (3, .ref (g.2.2.2 + v3)), (4, .int v4), (5, .int (v5 + (1 : Int32)))]) [1, 2, 3, 4, 0] rfl ?_
  exact hK53 _ _ _ _ pv3 hf
def fX8_write_L53 (a1 : Int32) (a2 : Int32) : Nat → Nat → Int32 → Int32 → fd_H → Option (Int32 × fd_H)
  | 0 => fun _ _ _ _ => none
  | n + 1 => fun v3 v4 v5 h =>
if v4 ≤ v5 then (
some (v4, h))
else (
if a1 = 0 then (
(fX8_sumOfAll v5 h).bind fun r6 =>
fX8_write_L82 a1 a2 (fX8_write_L53 a1 a2 n) v3 v4 v5 r6 v5 v3 h)
else (
(fX8_hangs v5 h).bind fun r4 =>
fX8_write_L82 a1 a2 (fX8_write_L53 a1 a2 n) v3 v4 v5 r4 v5 v3 h))
set_option maxRecDepth 100000 in
set_option maxHeartbeats 4000000 in
theorem sX8_write_L53 {g : fd_G} {hm : fd_H} {a1 : Int32} {a2 : Int32} {r : Int32 × fd_H} : ∀ (n : Nat) (v3 : Nat) (v4 : Int32) (v5 : Int32) (h : fd_H) (pv3 : fd_isSheet v3), fX8_write_L53 a1 a2 n v3 v4 v5 h = some r → fd_A g mX8_write fd_E (fd_rm 5 0 0) (fd_Q g (some (.int r.1)) fd_X0 (fd_mx r.2 hm) 0 0) 53 [(0, .ref (g.2.2.2 + 0)), (1, .int a1), (3, .ref (g.2.2.2 + v3)), (4, .int v4), (5, .int v5)] [] fd_X0 (fd_mx h hm) 0 0 := by
  intro n
  induction n with
  | zero =>
    intro _ _ _ _ _ hf
    cases hf
  | succ n ih =>
    intro v3 v4 v5 h pv3 hf
    rw [fX8_write_L53] at hf
    refine fr_iload (pc := 53) dX8_write_53 4 rfl ?_
    refine fr_iload (pc := 55) dX8_write_55 3 rfl ?_
    refine fr_icmp_ge (pc := 57) 91 dX8_write_57 (by decide) (fun c1 => ?_) (fun c1 => ?_)
    · have hf := fd_t c1 hf
      refine fr_iload (pc := 91) dX8_write_91 3 rfl ?_
      exact vx_iretW (x := v4) (pc := 93) dX8_write_93 rfl hf
    · have hf := fd_f c1 hf
      refine fr_aload_n (pc := 60) dX8_write_60 2 rfl rfl ?_
      refine fr_iload (pc := 61) dX8_write_61 4 rfl ?_
      refine fr_iload_n (pc := 63) dX8_write_63 1 rfl rfl ?_
      refine fr_if_ne (pc := 64) 76 dX8_write_64 (by decide) (fun c2 => ?_) (fun c2 => ?_)
      · have hf := fd_f c2 hf
        refine fr_aload_n (pc := 76) dX8_write_76 0 rfl rfl ?_
        refine fr_iload (pc := 77) dX8_write_77 4 rfl ?_
        obtain ⟨r4, hc3, hf⟩ := fd_bi hf
        refine fr_callVi (pc := 79) (av := [.int v5]) dX8_write_79 yy_X8_hangs kw_466 (by decide) rfl rfl rfl rfl (Nat.le_of_ble_eq_true rfl) ⟨Nat.le_of_ble_eq_true rfl, Nat.le_of_ble_eq_true rfl, Nat.zero_le _, Nat.zero_le _⟩ (sX8_hangs hc3) ?_
        refine fr_loc (lv' := [(0, .ref (g.2.2.2 + 0)), (1, .int a1), (3, .ref (g.2.2.2 + v3)), (4, .int v4), (5, .int v5)]) [0, 1, 2, 3, 4] rfl ?_
        exact sX8_write_L82 ih  _ _ _ _ _ _ _ pv3 pv3 hf
      · have hf := fd_t c2 hf
        refine fr_aload_n (pc := 67) dX8_write_67 0 rfl rfl ?_
        refine fr_iload (pc := 68) dX8_write_68 4 rfl ?_
        obtain ⟨r6, hc5, hf⟩ := fd_bi hf
        refine fr_callVi (pc := 70) (av := [.int v5]) dX8_write_70 yy_X8_sumOfAll kw_470 (by decide) rfl rfl rfl rfl (Nat.le_of_ble_eq_true rfl) ⟨Nat.le_of_ble_eq_true rfl, Nat.le_of_ble_eq_true rfl, Nat.zero_le _, Nat.zero_le _⟩ (sX8_sumOfAll hc5) ?_
        refine fr_goto (pc := 73) 82 dX8_write_73 (by decide) ?_
        refine fr_loc (lv' := [(0, .ref (g.2.2.2 + 0)), (1, .int a1), (3, .ref (g.2.2.2 + v3)), (4, .int v4), (5, .int v5)]) [0, 1, 2, 3, 4] rfl ?_
        exact sX8_write_L82 ih  _ _ _ _ _ _ _ pv3 pv3 hf
def fX8_write (a1 : Int32) (a2 : Int32) (h : fd_H) : Option (Int32 × fd_H) :=
(fX8_isBelow a1 (2 : Int32)).bind fun r2 =>
if r2 = true then (
(fX8_isBelow a2 (4 : Int32)).bind fun r5 =>
if r5 = true then (
fd_g (fd_in a2 4) (
if (h.1 (61 + 3 * a2.toNatClampNeg) 1) = 0 then (
fd_lt ((fd_min (h.1 (61 + 3 * a2.toNatClampNeg) 3) (40 : Int32))) fun x9 =>
fX8_write_L53 a1 a2 fd_fu (61 + 3 * a2.toNatClampNeg) x9 (0 : Int32) h)
else (
(fX8_find (1 : Int32) h).bind fun q11 =>
some (q11.1, q11.2))))
else (
some ((-2 : Int32), h)))
else (
some ((-2 : Int32), h))
set_option maxRecDepth 100000 in
set_option maxHeartbeats 4000000 in
theorem sX8_write {g : fd_G} {hm : fd_H} {a1 : Int32} {a2 : Int32} {r : Int32 × fd_H} {h : fd_H} (hf : fX8_write a1 a2 h = some r) : fd_S g mX8_write 5 [.ref (g.2.2.2 + 0), .int a1, .int a2] fd_X0 (fd_mx h hm) (some (.int r.1)) fd_X0 (fd_mx r.2 hm) 0 0 := by
  refine fd_S.of (by decide +kernel) (Nat.le_of_ble_eq_true rfl) ?_
  unfold fX8_write at hf
  refine fr_loc (lv' := [(0, .ref (g.2.2.2 + 0)), (1, .int a1), (2, .int a2)]) [0, 1, 2] rfl ?_
  refine fr_iload_n (pc := 0) dX8_write_0 1 rfl rfl ?_
  refine fr_iconst (pc := 1) (v := (2 : Int32)) dX8_write_1 (by decide) ?_
  obtain ⟨r2, hc1, hf⟩ := fd_bi hf
  refine fr_callSz (pc := 2) (av := [.int a1, .int (2 : Int32)]) dX8_write_2 yy_X8_isBelow kw_111 rfl rfl (Nat.le_of_ble_eq_true rfl) ⟨Nat.le_of_ble_eq_true rfl, Nat.le_of_ble_eq_true rfl, Nat.zero_le _, Nat.zero_le _⟩ (sX8_isBelow hc1) ?_
  refine fr_bz (pc := 5) 16 dX8_write_5 (by decide) (fun c3 => ?_) (fun c3 => ?_)
  · have hf := fd_f c3 hf
    refine fr_bipush (pc := 16) (v := (-2 : Int32)) dX8_write_16 (by decide) ?_
    exact vx_iretW (x := (-2 : Int32)) (pc := 18) dX8_write_18 rfl hf
  · have hf := fd_t c3 hf
    refine fr_iload_n (pc := 8) dX8_write_8 2 rfl rfl ?_
    refine fr_iconst (pc := 9) (v := (4 : Int32)) dX8_write_9 (by decide) ?_
    obtain ⟨r5, hc4, hf⟩ := fd_bi hf
    refine fr_callSz (pc := 10) (av := [.int a2, .int (4 : Int32)]) dX8_write_10 yy_X8_isBelow kw_111 rfl rfl (Nat.le_of_ble_eq_true rfl) ⟨Nat.le_of_ble_eq_true rfl, Nat.le_of_ble_eq_true rfl, Nat.zero_le _, Nat.zero_le _⟩ (sX8_isBelow hc4) ?_
    refine fr_bn (pc := 13) 19 dX8_write_13 (by decide) (fun c6 => ?_) (fun c6 => ?_)
    · have hf := fd_t c6 hf
      refine fr_aload_n (pc := 19) dX8_write_19 0 rfl rfl ?_
      refine fr_getR (pc := 20) dX8_write_20 fl_X8_54 (by decide) rfl rfl ?_
      refine fr_iload_n (pc := 23) dX8_write_23 2 rfl rfl ?_
      obtain ⟨g7, hf⟩ := fd_g_e hf
      refine fr_aaldS (pc := 24) dX8_write_24 (by decide) rfl g7 rfl ?_
      refine fr_astore_n (pc := 25) (lv' := [(3, .ref (g.2.2.2 + (61 + 3 * a2.toNatClampNeg))), (0, .ref (g.2.2.2 + 0)), (1, .int a1), (2, .int a2)]) dX8_write_25 rfl (by decide) rfl ?_
      refine fr_aload_n (pc := 26) dX8_write_26 0 rfl rfl ?_
      refine vx_getI (pc := 27) dX8_write_27 fl_X8_192 (fd_isSheetA g7).b (fd_isSheetA g7).x (fd_isSheetA g7).s rfl ?_
      refine fr_if_eq (pc := 30) 39 dX8_write_30 (by decide) (fun c8 => ?_) (fun c8 => ?_)
      · have hf := fd_t c8 hf
        refine fr_aload_n (pc := 39) dX8_write_39 0 rfl rfl ?_
        refine vx_getI (pc := 40) dX8_write_40 fl_X8_199 (fd_isSheetA g7).b (fd_isSheetA g7).x (fd_isSheetA g7).s rfl ?_
        refine fr_bipush (pc := 43) (v := (40 : Int32)) dX8_write_43 (by decide) ?_
        refine fr_min (pc := 45) dX8_write_45 kw_462 (Nat.le_of_ble_eq_true rfl) (Nat.le_of_ble_eq_true rfl) (Nat.zero_le _) (Nat.zero_le _) ?_
        obtain ⟨x9, ex9, hf⟩ := fd_lt_e hf
        refine fr_nmi ex9 ?_
        refine fr_istore (pc := 48) (lv' := [(4, .int x9), (3, .ref (g.2.2.2 + (61 + 3 * a2.toNatClampNeg))), (0, .ref (g.2.2.2 + 0)), (1, .int a1), (2, .int a2)]) dX8_write_48 (by decide) rfl ?_
        refine fr_iconst (pc := 50) (v := (0 : Int32)) dX8_write_50 (by decide) ?_
        refine fr_istore (pc := 51) (lv' := [(5, .int (0 : Int32)), (4, .int x9), (3, .ref (g.2.2.2 + (61 + 3 * a2.toNatClampNeg))), (0, .ref (g.2.2.2 + 0)), (1, .int a1), (2, .int a2)]) dX8_write_51 (by decide) rfl ?_
        refine fr_loc (lv' := [(0, .ref (g.2.2.2 + 0)), (1, .int a1), (3, .ref (g.2.2.2 + (61 + 3 * a2.toNatClampNeg))), (4, .int x9), (5, .int (0 : Int32))]) [3, 4, 2, 1, 0] rfl ?_
        exact sX8_write_L53 _  _ _ _ _ (fd_isSheetA g7) hf
      · have hf := fd_f c8 hf
        refine fr_aload_n (pc := 33) dX8_write_33 1 rfl rfl ?_
        refine fr_iconst (pc := 34) (v := (1 : Int32)) dX8_write_34 (by decide) ?_
        obtain ⟨q11, hc10, hf⟩ := fd_bi hf
        refine fr_callVi (pc := 35) (av := [.int (1 : Int32)]) dX8_write_35 yy_X8_find kw_129 (by decide) rfl rfl rfl rfl (Nat.le_of_ble_eq_true rfl) ⟨Nat.le_of_ble_eq_true rfl, Nat.le_of_ble_eq_true rfl, Nat.zero_le _, Nat.zero_le _⟩ (sX8_find hc10) ?_
        exact vx_iretW (x := q11.1) (pc := 38) dX8_write_38 rfl hf
    · have hf := fd_f c6 hf
      refine fr_bipush (pc := 16) (v := (-2 : Int32)) dX8_write_16 (by decide) ?_
      exact vx_iretW (x := (-2 : Int32)) (pc := 18) dX8_write_18 rfl hf
theorem dX8_mixDebt_0 : decode cX8_mixDebt 0 = .ok (.lload_n 1, 1) := by decide +kernel
theorem dX8_mixDebt_1 : decode cX8_mixDebt 1 = .ok (.lstore 4, 2) := by decide +kernel
theorem dX8_mixDebt_3 : decode cX8_mixDebt 3 = .ok (.iconst 0, 1) := by decide +kernel
theorem dX8_mixDebt_4 : decode cX8_mixDebt 4 = .ok (.istore 6, 2) := by decide +kernel
theorem dX8_mixDebt_6 : decode cX8_mixDebt 6 = .ok (.iload 6, 2) := by decide +kernel
theorem dX8_mixDebt_8 : decode cX8_mixDebt 8 = .ok (.iconst 5, 1) := by decide +kernel
theorem dX8_mixDebt_9 : decode cX8_mixDebt 9 = .ok (.if_icmp .ge 24, 3) := by decide +kernel
theorem dX8_mixDebt_12 : decode cX8_mixDebt 12 = .ok (.lload 4, 2) := by decide +kernel
theorem dX8_mixDebt_14 : decode cX8_mixDebt 14 = .ok (.aload_n 0, 1) := by decide +kernel
theorem dX8_mixDebt_15 : decode cX8_mixDebt 15 = .ok (.iload_n 3, 1) := by decide +kernel
theorem dX8_mixDebt_16 : decode cX8_mixDebt 16 = .ok (.iload 6, 2) := by decide +kernel
theorem dX8_mixDebt_18 : decode cX8_mixDebt 18 = .ok (.invokevirtual 368, 3) := by decide +kernel
theorem dX8_mixDebt_21 : decode cX8_mixDebt 21 = .ok (.i2l, 1) := by decide +kernel
theorem dX8_mixDebt_22 : decode cX8_mixDebt 22 = .ok (.invokestatic 279, 3) := by decide +kernel
theorem dX8_mixDebt_25 : decode cX8_mixDebt 25 = .ok (.lstore 4, 2) := by decide +kernel
theorem dX8_mixDebt_27 : decode cX8_mixDebt 27 = .ok (.iinc 6 1, 3) := by decide +kernel
theorem dX8_mixDebt_30 : decode cX8_mixDebt 30 = .ok (.goto (-24), 3) := by decide +kernel
theorem dX8_mixDebt_33 : decode cX8_mixDebt 33 = .ok (.lload 4, 2) := by decide +kernel
theorem dX8_mixDebt_35 : decode cX8_mixDebt 35 = .ok (.aload_n 0, 1) := by decide +kernel
theorem dX8_mixDebt_36 : decode cX8_mixDebt 36 = .ok (.iload_n 3, 1) := by decide +kernel
theorem dX8_mixDebt_37 : decode cX8_mixDebt 37 = .ok (.iconst 0, 1) := by decide +kernel
theorem dX8_mixDebt_38 : decode cX8_mixDebt 38 = .ok (.invokevirtual 371, 3) := by decide +kernel
theorem dX8_mixDebt_41 : decode cX8_mixDebt 41 = .ok (.i2l, 1) := by decide +kernel
theorem dX8_mixDebt_42 : decode cX8_mixDebt 42 = .ok (.invokestatic 279, 3) := by decide +kernel
theorem dX8_mixDebt_45 : decode cX8_mixDebt 45 = .ok (.aload_n 0, 1) := by decide +kernel
theorem dX8_mixDebt_46 : decode cX8_mixDebt 46 = .ok (.iload_n 3, 1) := by decide +kernel
theorem dX8_mixDebt_47 : decode cX8_mixDebt 47 = .ok (.iconst 1, 1) := by decide +kernel
theorem dX8_mixDebt_48 : decode cX8_mixDebt 48 = .ok (.invokevirtual 371, 3) := by decide +kernel
theorem dX8_mixDebt_51 : decode cX8_mixDebt 51 = .ok (.i2l, 1) := by decide +kernel
theorem dX8_mixDebt_52 : decode cX8_mixDebt 52 = .ok (.invokestatic 279, 3) := by decide +kernel
theorem dX8_mixDebt_55 : decode cX8_mixDebt 55 = .ok (.lstore 4, 2) := by decide +kernel
theorem dX8_mixDebt_57 : decode cX8_mixDebt 57 = .ok (.lload 4, 2) := by decide +kernel
theorem dX8_mixDebt_59 : decode cX8_mixDebt 59 = .ok (.aload_n 0, 1) := by decide +kernel
theorem dX8_mixDebt_60 : decode cX8_mixDebt 60 = .ok (.iload_n 3, 1) := by decide +kernel
theorem dX8_mixDebt_61 : decode cX8_mixDebt 61 = .ok (.iconst 0, 1) := by decide +kernel
theorem dX8_mixDebt_62 : decode cX8_mixDebt 62 = .ok (.iconst 0, 1) := by decide +kernel
theorem dX8_mixDebt_63 : decode cX8_mixDebt 63 = .ok (.invokevirtual 374, 3) := by decide +kernel
theorem dX8_mixDebt_66 : decode cX8_mixDebt 66 = .ok (.i2l, 1) := by decide +kernel
theorem dX8_mixDebt_67 : decode cX8_mixDebt 67 = .ok (.invokestatic 279, 3) := by decide +kernel
theorem dX8_mixDebt_70 : decode cX8_mixDebt 70 = .ok (.aload_n 0, 1) := by decide +kernel
theorem dX8_mixDebt_71 : decode cX8_mixDebt 71 = .ok (.iload_n 3, 1) := by decide +kernel
theorem dX8_mixDebt_72 : decode cX8_mixDebt 72 = .ok (.iconst 0, 1) := by decide +kernel
theorem dX8_mixDebt_73 : decode cX8_mixDebt 73 = .ok (.iconst 1, 1) := by decide +kernel
theorem dX8_mixDebt_74 : decode cX8_mixDebt 74 = .ok (.invokevirtual 374, 3) := by decide +kernel
theorem dX8_mixDebt_77 : decode cX8_mixDebt 77 = .ok (.i2l, 1) := by decide +kernel
theorem dX8_mixDebt_78 : decode cX8_mixDebt 78 = .ok (.invokestatic 279, 3) := by decide +kernel
theorem dX8_mixDebt_81 : decode cX8_mixDebt 81 = .ok (.lstore 4, 2) := by decide +kernel
theorem dX8_mixDebt_83 : decode cX8_mixDebt 83 = .ok (.lload 4, 2) := by decide +kernel
theorem dX8_mixDebt_85 : decode cX8_mixDebt 85 = .ok (.aload_n 0, 1) := by decide +kernel
theorem dX8_mixDebt_86 : decode cX8_mixDebt 86 = .ok (.iload_n 3, 1) := by decide +kernel
theorem dX8_mixDebt_87 : decode cX8_mixDebt 87 = .ok (.iconst 1, 1) := by decide +kernel
theorem dX8_mixDebt_88 : decode cX8_mixDebt 88 = .ok (.iconst 0, 1) := by decide +kernel
theorem dX8_mixDebt_89 : decode cX8_mixDebt 89 = .ok (.invokevirtual 374, 3) := by decide +kernel
theorem dX8_mixDebt_92 : decode cX8_mixDebt 92 = .ok (.i2l, 1) := by decide +kernel
theorem dX8_mixDebt_93 : decode cX8_mixDebt 93 = .ok (.invokestatic 279, 3) := by decide +kernel
theorem dX8_mixDebt_96 : decode cX8_mixDebt 96 = .ok (.aload_n 0, 1) := by decide +kernel
theorem dX8_mixDebt_97 : decode cX8_mixDebt 97 = .ok (.iload_n 3, 1) := by decide +kernel
theorem dX8_mixDebt_98 : decode cX8_mixDebt 98 = .ok (.iconst 1, 1) := by decide +kernel
theorem dX8_mixDebt_99 : decode cX8_mixDebt 99 = .ok (.iconst 1, 1) := by decide +kernel
theorem dX8_mixDebt_100 : decode cX8_mixDebt 100 = .ok (.invokevirtual 374, 3) := by decide +kernel
theorem dX8_mixDebt_103 : decode cX8_mixDebt 103 = .ok (.i2l, 1) := by decide +kernel
theorem dX8_mixDebt_104 : decode cX8_mixDebt 104 = .ok (.invokestatic 279, 3) := by decide +kernel
theorem dX8_mixDebt_107 : decode cX8_mixDebt 107 = .ok (.lreturn, 1) := by decide +kernel
def fX8_mixDebt_L6 (a1 : Int64) (a3 : Int32) (h : fd_H) : Nat → Int64 → Int32 → Option (Int64)
  | 0 => fun _ _ => none
  | n + 1 => fun v4 v6 =>
if (5 : Int32) ≤ v6 then (
(fX8_lasts a3 (0 : Int32) h).bind fun r3 =>
(fX8_mix v4 ((r3).toInt64)).bind fun r5 =>
(fX8_lasts a3 (1 : Int32) h).bind fun r7 =>
(fX8_mix r5 ((r7).toInt64)).bind fun r9 =>
(fX8_where a3 (0 : Int32) (0 : Int32) h).bind fun r11 =>
(fX8_mix r9 ((r11).toInt64)).bind fun r13 =>
(fX8_where a3 (0 : Int32) (1 : Int32) h).bind fun r15 =>
(fX8_mix r13 ((r15).toInt64)).bind fun r17 =>
(fX8_where a3 (1 : Int32) (0 : Int32) h).bind fun r19 =>
(fX8_mix r17 ((r19).toInt64)).bind fun r21 =>
(fX8_where a3 (1 : Int32) (1 : Int32) h).bind fun r23 =>
(fX8_mix r21 ((r23).toInt64)).bind fun r25 =>
some (r25))
else (
(fX8_debt a3 v6 h).bind fun r27 =>
(fX8_mix v4 ((r27).toInt64)).bind fun r29 =>
fX8_mixDebt_L6 a1 a3 h n r29 (v6 + (1 : Int32)))
set_option maxRecDepth 100000 in
set_option maxHeartbeats 4000000 in
theorem sX8_mixDebt_L6 {g : fd_G} {hm : fd_H} {a1 : Int64} {a3 : Int32} {h : fd_H} {r : Int64} : ∀ (n : Nat) (v4 : Int64) (v6 : Int32), fX8_mixDebt_L6 a1 a3 h n v4 v6 = some r → fd_A g mX8_mixDebt fd_E (fd_rm 5 0 0) (fd_Q g (some (.long r)) fd_X0 (fd_mx h hm) 0 0) 6 [(0, .ref (g.2.2.2 + 0)), (3, .int a3), (4, .long v4), (6, .int v6)] [] fd_X0 (fd_mx h hm) 0 0 := by
  intro n
  induction n with
  | zero =>
    intro _ _ hf
    cases hf
  | succ n ih =>
    intro v4 v6 hf
    rw [fX8_mixDebt_L6] at hf
    refine fr_iload (pc := 6) dX8_mixDebt_6 3 rfl ?_
    refine fr_iconst (pc := 8) (v := (5 : Int32)) dX8_mixDebt_8 (by decide) ?_
    refine fr_icmp_ge (pc := 9) 33 dX8_mixDebt_9 (by decide) (fun c1 => ?_) (fun c1 => ?_)
    · have hf := fd_t c1 hf
      refine fr_lload (pc := 33) dX8_mixDebt_33 2 rfl ?_
      refine fr_aload_n (pc := 35) dX8_mixDebt_35 0 rfl rfl ?_
      refine fr_iload_n (pc := 36) dX8_mixDebt_36 1 rfl rfl ?_
      refine fr_iconst (pc := 37) (v := (0 : Int32)) dX8_mixDebt_37 (by decide) ?_
      obtain ⟨r3, hc2, hf⟩ := fd_bi hf
      refine fr_callVi (pc := 38) (av := [.int a3, .int (0 : Int32)]) dX8_mixDebt_38 yy_X8_lasts kw_474 (by decide) rfl rfl rfl rfl (Nat.le_of_ble_eq_true rfl) ⟨Nat.le_of_ble_eq_true rfl, Nat.le_of_ble_eq_true rfl, Nat.zero_le _, Nat.zero_le _⟩ (sX8_lasts hc2) ?_
      refine fr_i2l (pc := 41) dX8_mixDebt_41 ?_
      obtain ⟨r5, hc4, hf⟩ := fd_bi hf
      refine fr_callSl (pc := 42) (av := [.long v4, .long ((r3).toInt64)]) dX8_mixDebt_42 yy_X8_mix kw_416 rfl rfl (Nat.le_of_ble_eq_true rfl) ⟨Nat.le_of_ble_eq_true rfl, Nat.le_of_ble_eq_true rfl, Nat.zero_le _, Nat.zero_le _⟩ (sX8_mix hc4) ?_
      refine fr_aload_n (pc := 45) dX8_mixDebt_45 0 rfl rfl ?_
      refine fr_iload_n (pc := 46) dX8_mixDebt_46 1 rfl rfl ?_
      refine fr_iconst (pc := 47) (v := (1 : Int32)) dX8_mixDebt_47 (by decide) ?_
      obtain ⟨r7, hc6, hf⟩ := fd_bi hf
      refine fr_callVi (pc := 48) (av := [.int a3, .int (1 : Int32)]) dX8_mixDebt_48 yy_X8_lasts kw_474 (by decide) rfl rfl rfl rfl (Nat.le_of_ble_eq_true rfl) ⟨Nat.le_of_ble_eq_true rfl, Nat.le_of_ble_eq_true rfl, Nat.zero_le _, Nat.zero_le _⟩ (sX8_lasts hc6) ?_
      refine fr_i2l (pc := 51) dX8_mixDebt_51 ?_
      obtain ⟨r9, hc8, hf⟩ := fd_bi hf
      refine fr_callSl (pc := 52) (av := [.long r5, .long ((r7).toInt64)]) dX8_mixDebt_52 yy_X8_mix kw_416 rfl rfl (Nat.le_of_ble_eq_true rfl) ⟨Nat.le_of_ble_eq_true rfl, Nat.le_of_ble_eq_true rfl, Nat.zero_le _, Nat.zero_le _⟩ (sX8_mix hc8) ?_
      refine fr_lstore (pc := 55) (lv' := [(4, .long r9), (0, .ref (g.2.2.2 + 0)), (3, .int a3), (6, .int v6)]) dX8_mixDebt_55 (by decide) rfl ?_
      refine fr_lload (pc := 57) dX8_mixDebt_57 0 rfl ?_
      refine fr_aload_n (pc := 59) dX8_mixDebt_59 1 rfl rfl ?_
      refine fr_iload_n (pc := 60) dX8_mixDebt_60 2 rfl rfl ?_
      refine fr_iconst (pc := 61) (v := (0 : Int32)) dX8_mixDebt_61 (by decide) ?_
      refine fr_iconst (pc := 62) (v := (0 : Int32)) dX8_mixDebt_62 (by decide) ?_
      obtain ⟨r11, hc10, hf⟩ := fd_bi hf
      refine fr_callVi (pc := 63) (av := [.int a3, .int (0 : Int32), .int (0 : Int32)]) dX8_mixDebt_63 yy_X8_where kw_478 (by decide) rfl rfl rfl rfl (Nat.le_of_ble_eq_true rfl) ⟨Nat.le_of_ble_eq_true rfl, Nat.le_of_ble_eq_true rfl, Nat.zero_le _, Nat.zero_le _⟩ (sX8_where hc10) ?_
      refine fr_i2l (pc := 66) dX8_mixDebt_66 ?_
      obtain ⟨r13, hc12, hf⟩ := fd_bi hf
      refine fr_callSl (pc := 67) (av := [.long r9, .long ((r11).toInt64)]) dX8_mixDebt_67 yy_X8_mix kw_416 rfl rfl (Nat.le_of_ble_eq_true rfl) ⟨Nat.le_of_ble_eq_true rfl, Nat.le_of_ble_eq_true rfl, Nat.zero_le _, Nat.zero_le _⟩ (sX8_mix hc12) ?_
      refine fr_aload_n (pc := 70) dX8_mixDebt_70 1 rfl rfl ?_
      refine fr_iload_n (pc := 71) dX8_mixDebt_71 2 rfl rfl ?_
      refine fr_iconst (pc := 72) (v := (0 : Int32)) dX8_mixDebt_72 (by decide) ?_
      refine fr_iconst (pc := 73) (v := (1 : Int32)) dX8_mixDebt_73 (by decide) ?_
      obtain ⟨r15, hc14, hf⟩ := fd_bi hf
      refine fr_callVi (pc := 74) (av := [.int a3, .int (0 : Int32), .int (1 : Int32)]) dX8_mixDebt_74 yy_X8_where kw_478 (by decide) rfl rfl rfl rfl (Nat.le_of_ble_eq_true rfl) ⟨Nat.le_of_ble_eq_true rfl, Nat.le_of_ble_eq_true rfl, Nat.zero_le _, Nat.zero_le _⟩ (sX8_where hc14) ?_
      refine fr_i2l (pc := 77) dX8_mixDebt_77 ?_
      obtain ⟨r17, hc16, hf⟩ := fd_bi hf
      refine fr_callSl (pc := 78) (av := [.long r13, .long ((r15).toInt64)]) dX8_mixDebt_78 yy_X8_mix kw_416 rfl rfl (Nat.le_of_ble_eq_true rfl) ⟨Nat.le_of_ble_eq_true rfl, Nat.le_of_ble_eq_true rfl, Nat.zero_le _, Nat.zero_le _⟩ (sX8_mix hc16) ?_
      refine fr_lstore (pc := 81) (lv' := [(4, .long r17), (0, .ref (g.2.2.2 + 0)), (3, .int a3), (6, .int v6)]) dX8_mixDebt_81 (by decide) rfl ?_
      refine fr_lload (pc := 83) dX8_mixDebt_83 0 rfl ?_
      refine fr_aload_n (pc := 85) dX8_mixDebt_85 1 rfl rfl ?_
      refine fr_iload_n (pc := 86) dX8_mixDebt_86 2 rfl rfl ?_
      refine fr_iconst (pc := 87) (v := (1 : Int32)) dX8_mixDebt_87 (by decide) ?_
      refine fr_iconst (pc := 88) (v := (0 : Int32)) dX8_mixDebt_88 (by decide) ?_
      obtain ⟨r19, hc18, hf⟩ := fd_bi hf
      refine fr_callVi (pc := 89) (av := [.int a3, .int (1 : Int32), .int (0 : Int32)]) dX8_mixDebt_89 yy_X8_where kw_478 (by decide) rfl rfl rfl rfl (Nat.le_of_ble_eq_true rfl) ⟨Nat.le_of_ble_eq_true rfl, Nat.le_of_ble_eq_true rfl, Nat.zero_le _, Nat.zero_le _⟩ (sX8_where hc18) ?_
      refine fr_i2l (pc := 92) dX8_mixDebt_92 ?_
      obtain ⟨r21, hc20, hf⟩ := fd_bi hf
      refine fr_callSl (pc := 93) (av := [.long r17, .long ((r19).toInt64)]) dX8_mixDebt_93 yy_X8_mix kw_416 rfl rfl (Nat.le_of_ble_eq_true rfl) ⟨Nat.le_of_ble_eq_true rfl, Nat.le_of_ble_eq_true rfl, Nat.zero_le _, Nat.zero_le _⟩ (sX8_mix hc20) ?_
      refine fr_aload_n (pc := 96) dX8_mixDebt_96 1 rfl rfl ?_
      refine fr_iload_n (pc := 97) dX8_mixDebt_97 2 rfl rfl ?_
      refine fr_iconst (pc := 98) (v := (1 : Int32)) dX8_mixDebt_98 (by decide) ?_
      refine fr_iconst (pc := 99) (v := (1 : Int32)) dX8_mixDebt_99 (by decide) ?_
      obtain ⟨r23, hc22, hf⟩ := fd_bi hf
      refine fr_callVi (pc := 100) (av := [.int a3, .int (1 : Int32), .int (1 : Int32)]) dX8_mixDebt_100 yy_X8_where kw_478 (by decide) rfl rfl rfl rfl (Nat.le_of_ble_eq_true rfl) ⟨Nat.le_of_ble_eq_true rfl, Nat.le_of_ble_eq_true rfl, Nat.zero_le _, Nat.zero_le _⟩ (sX8_where hc22) ?_
      refine fr_i2l (pc := 103) dX8_mixDebt_103 ?_
      obtain ⟨r25, hc24, hf⟩ := fd_bi hf
      refine fr_callSl (pc := 104) (av := [.long r21, .long ((r23).toInt64)]) dX8_mixDebt_104 yy_X8_mix kw_416 rfl rfl (Nat.le_of_ble_eq_true rfl) ⟨Nat.le_of_ble_eq_true rfl, Nat.le_of_ble_eq_true rfl, Nat.zero_le _, Nat.zero_le _⟩ (sX8_mix hc24) ?_
      exact fr_lretP (x := r25) (pc := 107) dX8_mixDebt_107 rfl hf
    · have hf := fd_f c1 hf
      refine fr_lload (pc := 12) dX8_mixDebt_12 2 rfl ?_
      refine fr_aload_n (pc := 14) dX8_mixDebt_14 0 rfl rfl ?_
      refine fr_iload_n (pc := 15) dX8_mixDebt_15 1 rfl rfl ?_
      refine fr_iload (pc := 16) dX8_mixDebt_16 3 rfl ?_
      obtain ⟨r27, hc26, hf⟩ := fd_bi hf
      refine fr_callVi (pc := 18) (av := [.int a3, .int v6]) dX8_mixDebt_18 yy_X8_debt kw_482 (by decide) rfl rfl rfl rfl (Nat.le_of_ble_eq_true rfl) ⟨Nat.le_of_ble_eq_true rfl, Nat.le_of_ble_eq_true rfl, Nat.zero_le _, Nat.zero_le _⟩ (sX8_debt hc26) ?_
      refine fr_i2l (pc := 21) dX8_mixDebt_21 ?_
      obtain ⟨r29, hc28, hf⟩ := fd_bi hf
      refine fr_callSl (pc := 22) (av := [.long v4, .long ((r27).toInt64)]) dX8_mixDebt_22 yy_X8_mix kw_416 rfl rfl (Nat.le_of_ble_eq_true rfl) ⟨Nat.le_of_ble_eq_true rfl, Nat.le_of_ble_eq_true rfl, Nat.zero_le _, Nat.zero_le _⟩ (sX8_mix hc28) ?_
      refine fr_lstore (pc := 25) (lv' := [(4, .long r29), (0, .ref (g.2.2.2 + 0)), (3, .int a3), (6, .int v6)]) dX8_mixDebt_25 (by decide) rfl ?_
      refine fr_iinc (pc := 27) (v := (v6 + (1 : Int32))) (lv' := [(6, .int (v6 + (1 : Int32))), (4, .long r29), (0, .ref (g.2.2.2 + 0)), (3, .int a3)]) dX8_mixDebt_27 3 rfl rfl (by decide) rfl ?_
      refine fr_goto (pc := 30) 6 dX8_mixDebt_30 (by decide) ?_
      refine fr_loc (lv' := [(0, .ref (g.2.2.2 + 0)), (3, .int a3), (4, .long r29), (6, .int (v6 + (1 : Int32)))]) [2, 3, 1, 0] rfl ?_
      exact ih _ _ hf
def fX8_mixDebt (a1 : Int64) (a3 : Int32) (h : fd_H) : Option (Int64) :=
fX8_mixDebt_L6 a1 a3 h fd_fu a1 (0 : Int32)
set_option maxRecDepth 100000 in
set_option maxHeartbeats 4000000 in
theorem sX8_mixDebt {g : fd_G} {hm : fd_H} {a1 : Int64} {a3 : Int32} {h : fd_H} {r : Int64} (hf : fX8_mixDebt a1 a3 h = some r) : fd_S g mX8_mixDebt 5 [.ref (g.2.2.2 + 0), .long a1, .int a3] fd_X0 (fd_mx h hm) (some (.long r)) fd_X0 (fd_mx h hm) 0 0 := by
  refine fd_S.of (by decide +kernel) (Nat.le_of_ble_eq_true rfl) ?_
  unfold fX8_mixDebt at hf
  refine fr_loc (lv' := [(0, .ref (g.2.2.2 + 0)), (1, .long a1), (3, .int a3)]) [0, 1, 2] rfl ?_
  refine fr_lload_n (pc := 0) dX8_mixDebt_0 1 rfl rfl ?_
  refine fr_lstore (pc := 1) (lv' := [(4, .long a1), (0, .ref (g.2.2.2 + 0)), (1, .long a1), (3, .int a3)]) dX8_mixDebt_1 (by decide) rfl ?_
  refine fr_iconst (pc := 3) (v := (0 : Int32)) dX8_mixDebt_3 (by decide) ?_
  refine fr_istore (pc := 4) (lv' := [(6, .int (0 : Int32)), (4, .long a1), (0, .ref (g.2.2.2 + 0)), (1, .long a1), (3, .int a3)]) dX8_mixDebt_4 (by decide) rfl ?_
  refine fr_loc (lv' := [(0, .ref (g.2.2.2 + 0)), (3, .int a3), (4, .long a1), (6, .int (0 : Int32))]) [2, 4, 1, 0] rfl ?_
  exact sX8_mixDebt_L6 _  _ _ hf
theorem dX8_mixPerson_0 : decode cX8_mixPerson 0 = .ok (.lload_n 1, 1) := by decide +kernel
theorem dX8_mixPerson_1 : decode cX8_mixPerson 1 = .ok (.aload_n 0, 1) := by decide +kernel
theorem dX8_mixPerson_2 : decode cX8_mixPerson 2 = .ok (.iload_n 3, 1) := by decide +kernel
theorem dX8_mixPerson_3 : decode cX8_mixPerson 3 = .ok (.iconst 5, 1) := by decide +kernel
theorem dX8_mixPerson_4 : decode cX8_mixPerson 4 = .ok (.iconst 0, 1) := by decide +kernel
theorem dX8_mixPerson_5 : decode cX8_mixPerson 5 = .ok (.invokevirtual 377, 3) := by decide +kernel
theorem dX8_mixPerson_8 : decode cX8_mixPerson 8 = .ok (.i2l, 1) := by decide +kernel
theorem dX8_mixPerson_9 : decode cX8_mixPerson 9 = .ok (.invokestatic 279, 3) := by decide +kernel
theorem dX8_mixPerson_12 : decode cX8_mixPerson 12 = .ok (.aload_n 0, 1) := by decide +kernel
theorem dX8_mixPerson_13 : decode cX8_mixPerson 13 = .ok (.iload_n 3, 1) := by decide +kernel
theorem dX8_mixPerson_14 : decode cX8_mixPerson 14 = .ok (.iconst 5, 1) := by decide +kernel
theorem dX8_mixPerson_15 : decode cX8_mixPerson 15 = .ok (.iconst 1, 1) := by decide +kernel
theorem dX8_mixPerson_16 : decode cX8_mixPerson 16 = .ok (.invokevirtual 377, 3) := by decide +kernel
theorem dX8_mixPerson_19 : decode cX8_mixPerson 19 = .ok (.i2l, 1) := by decide +kernel
theorem dX8_mixPerson_20 : decode cX8_mixPerson 20 = .ok (.invokestatic 279, 3) := by decide +kernel
theorem dX8_mixPerson_23 : decode cX8_mixPerson 23 = .ok (.lstore 4, 2) := by decide +kernel
theorem dX8_mixPerson_25 : decode cX8_mixPerson 25 = .ok (.lload 4, 2) := by decide +kernel
theorem dX8_mixPerson_27 : decode cX8_mixPerson 27 = .ok (.aload_n 0, 1) := by decide +kernel
theorem dX8_mixPerson_28 : decode cX8_mixPerson 28 = .ok (.iload_n 3, 1) := by decide +kernel
theorem dX8_mixPerson_29 : decode cX8_mixPerson 29 = .ok (.iconst 0, 1) := by decide +kernel
theorem dX8_mixPerson_30 : decode cX8_mixPerson 30 = .ok (.invokevirtual 380, 3) := by decide +kernel
theorem dX8_mixPerson_33 : decode cX8_mixPerson 33 = .ok (.i2l, 1) := by decide +kernel
theorem dX8_mixPerson_34 : decode cX8_mixPerson 34 = .ok (.invokestatic 279, 3) := by decide +kernel
theorem dX8_mixPerson_37 : decode cX8_mixPerson 37 = .ok (.lstore 4, 2) := by decide +kernel
theorem dX8_mixPerson_39 : decode cX8_mixPerson 39 = .ok (.lload 4, 2) := by decide +kernel
theorem dX8_mixPerson_41 : decode cX8_mixPerson 41 = .ok (.aload_n 0, 1) := by decide +kernel
theorem dX8_mixPerson_42 : decode cX8_mixPerson 42 = .ok (.iload_n 3, 1) := by decide +kernel
theorem dX8_mixPerson_43 : decode cX8_mixPerson 43 = .ok (.iconst 5, 1) := by decide +kernel
theorem dX8_mixPerson_44 : decode cX8_mixPerson 44 = .ok (.iconst (-1), 1) := by decide +kernel
theorem dX8_mixPerson_45 : decode cX8_mixPerson 45 = .ok (.invokevirtual 383, 3) := by decide +kernel
theorem dX8_mixPerson_48 : decode cX8_mixPerson 48 = .ok (.i2l, 1) := by decide +kernel
theorem dX8_mixPerson_49 : decode cX8_mixPerson 49 = .ok (.invokestatic 279, 3) := by decide +kernel
theorem dX8_mixPerson_52 : decode cX8_mixPerson 52 = .ok (.aload_n 0, 1) := by decide +kernel
theorem dX8_mixPerson_53 : decode cX8_mixPerson 53 = .ok (.iload_n 3, 1) := by decide +kernel
theorem dX8_mixPerson_54 : decode cX8_mixPerson 54 = .ok (.iconst 5, 1) := by decide +kernel
theorem dX8_mixPerson_55 : decode cX8_mixPerson 55 = .ok (.iconst 0, 1) := by decide +kernel
theorem dX8_mixPerson_56 : decode cX8_mixPerson 56 = .ok (.invokevirtual 383, 3) := by decide +kernel
theorem dX8_mixPerson_59 : decode cX8_mixPerson 59 = .ok (.i2l, 1) := by decide +kernel
theorem dX8_mixPerson_60 : decode cX8_mixPerson 60 = .ok (.invokestatic 279, 3) := by decide +kernel
theorem dX8_mixPerson_63 : decode cX8_mixPerson 63 = .ok (.lreturn, 1) := by decide +kernel
def fX8_mixPerson (a1 : Int64) (a3 : Int32) (h : fd_H) : Option (Int64) :=
(fX8_owes a3 (5 : Int32) (0 : Int32) h).bind fun r2 =>
(fX8_mix a1 ((r2).toInt64)).bind fun r4 =>
(fX8_owes a3 (5 : Int32) (1 : Int32) h).bind fun r6 =>
(fX8_mix r4 ((r6).toInt64)).bind fun r8 =>
(fX8_free a3 (0 : Int32) h).bind fun r10 =>
(fX8_mix r8 ((r10).toInt64)).bind fun r12 =>
(fX8_carry a3 (5 : Int32) (-1 : Int32) h).bind fun r14 =>
(fX8_mix r12 ((r14).toInt64)).bind fun r16 =>
(fX8_carry a3 (5 : Int32) (0 : Int32) h).bind fun r18 =>
(fX8_mix r16 ((r18).toInt64)).bind fun r20 =>
some (r20)
set_option maxRecDepth 100000 in
set_option maxHeartbeats 4000000 in
theorem sX8_mixPerson {g : fd_G} {hm : fd_H} {a1 : Int64} {a3 : Int32} {h : fd_H} {r : Int64} (hf : fX8_mixPerson a1 a3 h = some r) : fd_S g mX8_mixPerson 5 [.ref (g.2.2.2 + 0), .long a1, .int a3] fd_X0 (fd_mx h hm) (some (.long r)) fd_X0 (fd_mx h hm) 0 0 := by
  refine fd_S.of (by decide +kernel) (Nat.le_of_ble_eq_true rfl) ?_
  unfold fX8_mixPerson at hf
  refine fr_loc (lv' := [(0, .ref (g.2.2.2 + 0)), (1, .long a1), (3, .int a3)]) [0, 1, 2] rfl ?_
  refine fr_lload_n (pc := 0) dX8_mixPerson_0 1 rfl rfl ?_
  refine fr_aload_n (pc := 1) dX8_mixPerson_1 0 rfl rfl ?_
  refine fr_iload_n (pc := 2) dX8_mixPerson_2 2 rfl rfl ?_
  refine fr_iconst (pc := 3) (v := (5 : Int32)) dX8_mixPerson_3 (by decide) ?_
  refine fr_iconst (pc := 4) (v := (0 : Int32)) dX8_mixPerson_4 (by decide) ?_
  obtain ⟨r2, hc1, hf⟩ := fd_bi hf
  refine fr_callVi (pc := 5) (av := [.int a3, .int (5 : Int32), .int (0 : Int32)]) dX8_mixPerson_5 yy_X8_owes kw_486 (by decide) rfl rfl rfl rfl (Nat.le_of_ble_eq_true rfl) ⟨Nat.le_of_ble_eq_true rfl, Nat.le_of_ble_eq_true rfl, Nat.zero_le _, Nat.zero_le _⟩ (sX8_owes hc1) ?_
  refine fr_i2l (pc := 8) dX8_mixPerson_8 ?_
  obtain ⟨r4, hc3, hf⟩ := fd_bi hf
  refine fr_callSl (pc := 9) (av := [.long a1, .long ((r2).toInt64)]) dX8_mixPerson_9 yy_X8_mix kw_416 rfl rfl (Nat.le_of_ble_eq_true rfl) ⟨Nat.le_of_ble_eq_true rfl, Nat.le_of_ble_eq_true rfl, Nat.zero_le _, Nat.zero_le _⟩ (sX8_mix hc3) ?_
  refine fr_aload_n (pc := 12) dX8_mixPerson_12 0 rfl rfl ?_
  refine fr_iload_n (pc := 13) dX8_mixPerson_13 2 rfl rfl ?_
  refine fr_iconst (pc := 14) (v := (5 : Int32)) dX8_mixPerson_14 (by decide) ?_
  refine fr_iconst (pc := 15) (v := (1 : Int32)) dX8_mixPerson_15 (by decide) ?_
  obtain ⟨r6, hc5, hf⟩ := fd_bi hf
  refine fr_callVi (pc := 16) (av := [.int a3, .int (5 : Int32), .int (1 : Int32)]) dX8_mixPerson_16 yy_X8_owes kw_486 (by decide) rfl rfl rfl rfl (Nat.le_of_ble_eq_true rfl) ⟨Nat.le_of_ble_eq_true rfl, Nat.le_of_ble_eq_true rfl, Nat.zero_le _, Nat.zero_le _⟩ (sX8_owes hc5) ?_
  refine fr_i2l (pc := 19) dX8_mixPerson_19 ?_
  obtain ⟨r8, hc7, hf⟩ := fd_bi hf
  refine fr_callSl (pc := 20) (av := [.long r4, .long ((r6).toInt64)]) dX8_mixPerson_20 yy_X8_mix kw_416 rfl rfl (Nat.le_of_ble_eq_true rfl) ⟨Nat.le_of_ble_eq_true rfl, Nat.le_of_ble_eq_true rfl, Nat.zero_le _, Nat.zero_le _⟩ (sX8_mix hc7) ?_
  refine fr_lstore (pc := 23) (lv' := [(4, .long r8), (0, .ref (g.2.2.2 + 0)), (1, .long a1), (3, .int a3)]) dX8_mixPerson_23 (by decide) rfl ?_
  refine fr_lload (pc := 25) dX8_mixPerson_25 0 rfl ?_
  refine fr_aload_n (pc := 27) dX8_mixPerson_27 1 rfl rfl ?_
  refine fr_iload_n (pc := 28) dX8_mixPerson_28 3 rfl rfl ?_
  refine fr_iconst (pc := 29) (v := (0 : Int32)) dX8_mixPerson_29 (by decide) ?_
  obtain ⟨r10, hc9, hf⟩ := fd_bi hf
  refine fr_callVi (pc := 30) (av := [.int a3, .int (0 : Int32)]) dX8_mixPerson_30 yy_X8_free kw_490 (by decide) rfl rfl rfl rfl (Nat.le_of_ble_eq_true rfl) ⟨Nat.le_of_ble_eq_true rfl, Nat.le_of_ble_eq_true rfl, Nat.zero_le _, Nat.zero_le _⟩ (sX8_free hc9) ?_
  refine fr_i2l (pc := 33) dX8_mixPerson_33 ?_
  obtain ⟨r12, hc11, hf⟩ := fd_bi hf
  refine fr_callSl (pc := 34) (av := [.long r8, .long ((r10).toInt64)]) dX8_mixPerson_34 yy_X8_mix kw_416 rfl rfl (Nat.le_of_ble_eq_true rfl) ⟨Nat.le_of_ble_eq_true rfl, Nat.le_of_ble_eq_true rfl, Nat.zero_le _, Nat.zero_le _⟩ (sX8_mix hc11) ?_
  refine fr_lstore (pc := 37) (lv' := [(4, .long r12), (0, .ref (g.2.2.2 + 0)), (1, .long a1), (3, .int a3)]) dX8_mixPerson_37 (by decide) rfl ?_
  refine fr_lload (pc := 39) dX8_mixPerson_39 0 rfl ?_
  refine fr_aload_n (pc := 41) dX8_mixPerson_41 1 rfl rfl ?_
  refine fr_iload_n (pc := 42) dX8_mixPerson_42 3 rfl rfl ?_
  refine fr_iconst (pc := 43) (v := (5 : Int32)) dX8_mixPerson_43 (by decide) ?_
  refine fr_iconst (pc := 44) (v := (-1 : Int32)) dX8_mixPerson_44 (by decide) ?_
  obtain ⟨r14, hc13, hf⟩ := fd_bi hf
  refine fr_callVi (pc := 45) (av := [.int a3, .int (5 : Int32), .int (-1 : Int32)]) dX8_mixPerson_45 yy_X8_carry kw_494 (by decide) rfl rfl rfl rfl (Nat.le_of_ble_eq_true rfl) ⟨Nat.le_of_ble_eq_true rfl, Nat.le_of_ble_eq_true rfl, Nat.zero_le _, Nat.zero_le _⟩ (sX8_carry hc13) ?_
  refine fr_i2l (pc := 48) dX8_mixPerson_48 ?_
  obtain ⟨r16, hc15, hf⟩ := fd_bi hf
  refine fr_callSl (pc := 49) (av := [.long r12, .long ((r14).toInt64)]) dX8_mixPerson_49 yy_X8_mix kw_416 rfl rfl (Nat.le_of_ble_eq_true rfl) ⟨Nat.le_of_ble_eq_true rfl, Nat.le_of_ble_eq_true rfl, Nat.zero_le _, Nat.zero_le _⟩ (sX8_mix hc15) ?_
  refine fr_aload_n (pc := 52) dX8_mixPerson_52 1 rfl rfl ?_
  refine fr_iload_n (pc := 53) dX8_mixPerson_53 3 rfl rfl ?_
  refine fr_iconst (pc := 54) (v := (5 : Int32)) dX8_mixPerson_54 (by decide) ?_
  refine fr_iconst (pc := 55) (v := (0 : Int32)) dX8_mixPerson_55 (by decide) ?_
  obtain ⟨r18, hc17, hf⟩ := fd_bi hf
  refine fr_callVi (pc := 56) (av := [.int a3, .int (5 : Int32), .int (0 : Int32)]) dX8_mixPerson_56 yy_X8_carry kw_494 (by decide) rfl rfl rfl rfl (Nat.le_of_ble_eq_true rfl) ⟨Nat.le_of_ble_eq_true rfl, Nat.le_of_ble_eq_true rfl, Nat.zero_le _, Nat.zero_le _⟩ (sX8_carry hc17) ?_
  refine fr_i2l (pc := 59) dX8_mixPerson_59 ?_
  obtain ⟨r20, hc19, hf⟩ := fd_bi hf
  refine fr_callSl (pc := 60) (av := [.long r16, .long ((r18).toInt64)]) dX8_mixPerson_60 yy_X8_mix kw_416 rfl rfl (Nat.le_of_ble_eq_true rfl) ⟨Nat.le_of_ble_eq_true rfl, Nat.le_of_ble_eq_true rfl, Nat.zero_le _, Nat.zero_le _⟩ (sX8_mix hc19) ?_
  exact fr_lretP (x := r20) (pc := 63) dX8_mixPerson_63 rfl hf
theorem dX8_mixNight_0 : decode cX8_mixNight 0 = .ok (.lload_n 1, 1) := by decide +kernel
theorem dX8_mixNight_1 : decode cX8_mixNight 1 = .ok (.aload_n 0, 1) := by decide +kernel
theorem dX8_mixNight_2 : decode cX8_mixNight 2 = .ok (.iload_n 3, 1) := by decide +kernel
theorem dX8_mixNight_3 : decode cX8_mixNight 3 = .ok (.invokevirtual 386, 3) := by decide +kernel
theorem dX8_mixNight_6 : decode cX8_mixNight 6 = .ok (.i2l, 1) := by decide +kernel
theorem dX8_mixNight_7 : decode cX8_mixNight 7 = .ok (.invokestatic 279, 3) := by decide +kernel
theorem dX8_mixNight_10 : decode cX8_mixNight 10 = .ok (.aload_n 0, 1) := by decide +kernel
theorem dX8_mixNight_11 : decode cX8_mixNight 11 = .ok (.iload_n 3, 1) := by decide +kernel
theorem dX8_mixNight_12 : decode cX8_mixNight 12 = .ok (.invokevirtual 271, 3) := by decide +kernel
theorem dX8_mixNight_15 : decode cX8_mixNight 15 = .ok (.i2l, 1) := by decide +kernel
theorem dX8_mixNight_16 : decode cX8_mixNight 16 = .ok (.invokestatic 279, 3) := by decide +kernel
theorem dX8_mixNight_19 : decode cX8_mixNight 19 = .ok (.aload_n 0, 1) := by decide +kernel
theorem dX8_mixNight_20 : decode cX8_mixNight 20 = .ok (.iload_n 3, 1) := by decide +kernel
theorem dX8_mixNight_21 : decode cX8_mixNight 21 = .ok (.invokevirtual 222, 3) := by decide +kernel
theorem dX8_mixNight_24 : decode cX8_mixNight 24 = .ok (.i2l, 1) := by decide +kernel
theorem dX8_mixNight_25 : decode cX8_mixNight 25 = .ok (.invokestatic 279, 3) := by decide +kernel
theorem dX8_mixNight_28 : decode cX8_mixNight 28 = .ok (.aload_n 0, 1) := by decide +kernel
theorem dX8_mixNight_29 : decode cX8_mixNight 29 = .ok (.iload_n 3, 1) := by decide +kernel
theorem dX8_mixNight_30 : decode cX8_mixNight 30 = .ok (.invokevirtual 389, 3) := by decide +kernel
theorem dX8_mixNight_33 : decode cX8_mixNight 33 = .ok (.i2l, 1) := by decide +kernel
theorem dX8_mixNight_34 : decode cX8_mixNight 34 = .ok (.invokestatic 279, 3) := by decide +kernel
theorem dX8_mixNight_37 : decode cX8_mixNight 37 = .ok (.lreturn, 1) := by decide +kernel
def fX8_mixNight (a1 : Int64) (a3 : Int32) (h : fd_H) : Option (Int64 × fd_H) :=
(fX8_had a3 h).bind fun r2 =>
(fX8_mix a1 ((r2).toInt64)).bind fun r4 =>
(fX8_hangs a3 h).bind fun r6 =>
(fX8_mix r4 ((r6).toInt64)).bind fun r8 =>
(fX8_was a3 h).bind fun q10 =>
(fX8_mix r8 ((q10.1).toInt64)).bind fun r12 =>
(fX8_ask a3 q10.2).bind fun q14 =>
(fX8_mix r12 ((q14.1).toInt64)).bind fun r16 =>
some (r16, q14.2)
set_option maxRecDepth 100000 in
set_option maxHeartbeats 4000000 in
theorem sX8_mixNight {g : fd_G} {hm : fd_H} {a1 : Int64} {a3 : Int32} {r : Int64 × fd_H} {h : fd_H} (hf : fX8_mixNight a1 a3 h = some r) : fd_S g mX8_mixNight 5 [.ref (g.2.2.2 + 0), .long a1, .int a3] fd_X0 (fd_mx h hm) (some (.long r.1)) fd_X0 (fd_mx r.2 hm) 0 0 := by
  refine fd_S.of (by decide +kernel) (Nat.le_of_ble_eq_true rfl) ?_
  unfold fX8_mixNight at hf
  refine fr_loc (lv' := [(0, .ref (g.2.2.2 + 0)), (1, .long a1), (3, .int a3)]) [0, 1, 2] rfl ?_
  refine fr_lload_n (pc := 0) dX8_mixNight_0 1 rfl rfl ?_
  refine fr_aload_n (pc := 1) dX8_mixNight_1 0 rfl rfl ?_
  refine fr_iload_n (pc := 2) dX8_mixNight_2 2 rfl rfl ?_
  obtain ⟨r2, hc1, hf⟩ := fd_bi hf
  refine fr_callVi (pc := 3) (av := [.int a3]) dX8_mixNight_3 yy_X8_had kw_498 (by decide) rfl rfl rfl rfl (Nat.le_of_ble_eq_true rfl) ⟨Nat.le_of_ble_eq_true rfl, Nat.le_of_ble_eq_true rfl, Nat.zero_le _, Nat.zero_le _⟩ (sX8_had hc1) ?_
  refine fr_i2l (pc := 6) dX8_mixNight_6 ?_
  obtain ⟨r4, hc3, hf⟩ := fd_bi hf
  refine fr_callSl (pc := 7) (av := [.long a1, .long ((r2).toInt64)]) dX8_mixNight_7 yy_X8_mix kw_416 rfl rfl (Nat.le_of_ble_eq_true rfl) ⟨Nat.le_of_ble_eq_true rfl, Nat.le_of_ble_eq_true rfl, Nat.zero_le _, Nat.zero_le _⟩ (sX8_mix hc3) ?_
  refine fr_aload_n (pc := 10) dX8_mixNight_10 0 rfl rfl ?_
  refine fr_iload_n (pc := 11) dX8_mixNight_11 2 rfl rfl ?_
  obtain ⟨r6, hc5, hf⟩ := fd_bi hf
  refine fr_callVi (pc := 12) (av := [.int a3]) dX8_mixNight_12 yy_X8_hangs kw_466 (by decide) rfl rfl rfl rfl (Nat.le_of_ble_eq_true rfl) ⟨Nat.le_of_ble_eq_true rfl, Nat.le_of_ble_eq_true rfl, Nat.zero_le _, Nat.zero_le _⟩ (sX8_hangs hc5) ?_
  refine fr_i2l (pc := 15) dX8_mixNight_15 ?_
  obtain ⟨r8, hc7, hf⟩ := fd_bi hf
  refine fr_callSl (pc := 16) (av := [.long r4, .long ((r6).toInt64)]) dX8_mixNight_16 yy_X8_mix kw_416 rfl rfl (Nat.le_of_ble_eq_true rfl) ⟨Nat.le_of_ble_eq_true rfl, Nat.le_of_ble_eq_true rfl, Nat.zero_le _, Nat.zero_le _⟩ (sX8_mix hc7) ?_
  refine fr_aload_n (pc := 19) dX8_mixNight_19 0 rfl rfl ?_
  refine fr_iload_n (pc := 20) dX8_mixNight_20 2 rfl rfl ?_
  obtain ⟨q10, hc9, hf⟩ := fd_bi hf
  refine fr_callVi (pc := 21) (av := [.int a3]) dX8_mixNight_21 yy_X8_was kw_393 (by decide) rfl rfl rfl rfl (Nat.le_of_ble_eq_true rfl) ⟨Nat.le_of_ble_eq_true rfl, Nat.le_of_ble_eq_true rfl, Nat.zero_le _, Nat.zero_le _⟩ (sX8_was hc9) ?_
  refine fr_i2l (pc := 24) dX8_mixNight_24 ?_
  obtain ⟨r12, hc11, hf⟩ := fd_bi hf
  refine fr_callSl (pc := 25) (av := [.long r8, .long ((q10.1).toInt64)]) dX8_mixNight_25 yy_X8_mix kw_416 rfl rfl (Nat.le_of_ble_eq_true rfl) ⟨Nat.le_of_ble_eq_true rfl, Nat.le_of_ble_eq_true rfl, Nat.zero_le _, Nat.zero_le _⟩ (sX8_mix hc11) ?_
  refine fr_aload_n (pc := 28) dX8_mixNight_28 0 rfl rfl ?_
  refine fr_iload_n (pc := 29) dX8_mixNight_29 2 rfl rfl ?_
  obtain ⟨q14, hc13, hf⟩ := fd_bi hf
  refine fr_callVi (pc := 30) (av := [.int a3]) dX8_mixNight_30 yy_X8_ask kw_502 (by decide) rfl rfl rfl rfl (Nat.le_of_ble_eq_true rfl) ⟨Nat.le_of_ble_eq_true rfl, Nat.le_of_ble_eq_true rfl, Nat.zero_le _, Nat.zero_le _⟩ (sX8_ask hc13) ?_
  refine fr_i2l (pc := 33) dX8_mixNight_33 ?_
  obtain ⟨r16, hc15, hf⟩ := fd_bi hf
  refine fr_callSl (pc := 34) (av := [.long r12, .long ((q14.1).toInt64)]) dX8_mixNight_34 yy_X8_mix kw_416 rfl rfl (Nat.le_of_ble_eq_true rfl) ⟨Nat.le_of_ble_eq_true rfl, Nat.le_of_ble_eq_true rfl, Nat.zero_le _, Nat.zero_le _⟩ (sX8_mix hc15) ?_
  exact vx_lretW (x := r16) (pc := 37) dX8_mixNight_37 rfl hf
theorem dX9_reads_0 : decode cX9_reads 0 = .ok (.aload_n 0, 1) := by decide +kernel
theorem dX9_reads_1 : decode cX9_reads 1 = .ok (.iconst 0, 1) := by decide +kernel
theorem dX9_reads_2 : decode cX9_reads 2 = .ok (.invokevirtual 128, 3) := by decide +kernel
theorem dX9_reads_5 : decode cX9_reads 5 = .ok (.istore_n 1, 1) := by decide +kernel
theorem dX9_reads_6 : decode cX9_reads 6 = .ok (.return_, 1) := by decide +kernel
def fX9_reads  (h : fd_H) : Option (fd_H) :=
(fX9_faultOf (0 : Int32) h).bind fun q2 =>
some q2.2
set_option maxRecDepth 100000 in
set_option maxHeartbeats 4000000 in
theorem sX9_reads {g : fd_G} {hm : fd_H} {r : fd_H} {h : fd_H} (hf : fX9_reads  h = some r) : fd_S g mX9_reads 5 [.ref (g.2.2.2 + 73)] fd_X0 (fd_mx hm h) none fd_X0 (fd_mx hm r) 0 0 := by
  refine fd_S.of (by decide +kernel) (Nat.le_of_ble_eq_true rfl) ?_
  unfold fX9_reads at hf
  refine fr_loc (lv' := [(0, .ref (g.2.2.2 + 73))]) [0] rfl ?_
  refine fr_aload_n (pc := 0) dX9_reads_0 0 rfl rfl ?_
  refine fr_iconst (pc := 1) (v := (0 : Int32)) dX9_reads_1 (by decide) ?_
  obtain ⟨q2, hc1, hf⟩ := fd_bi hf
  refine fr_callVi (pc := 2) (av := [.int (0 : Int32)]) dX9_reads_2 yy_X9_faultOf kw_506 (by decide) rfl rfl rfl rfl (Nat.le_of_ble_eq_true rfl) ⟨Nat.le_of_ble_eq_true rfl, Nat.le_of_ble_eq_true rfl, Nat.zero_le _, Nat.zero_le _⟩ (sX9_faultOf hc1) ?_
  refine fr_istore_n (pc := 5) (lv' := [(1, .int q2.1), (0, .ref (g.2.2.2 + 73))]) dX9_reads_5 rfl (by decide) rfl ?_
  exact vm_vretW (pc := 6) dX9_reads_6 rfl hf
theorem dX9_fault_0 : decode cX9_fault 0 = .ok (.iload_n 1, 1) := by decide +kernel
theorem dX9_fault_1 : decode cX9_fault 1 = .ok (.invokestatic 93, 3) := by decide +kernel
theorem dX9_fault_4 : decode cX9_fault 4 = .ok (.ifCond .eq 11, 3) := by decide +kernel
theorem dX9_fault_7 : decode cX9_fault 7 = .ok (.aload_n 0, 1) := by decide +kernel
theorem dX9_fault_8 : decode cX9_fault 8 = .ok (.iload_n 1, 1) := by decide +kernel
theorem dX9_fault_9 : decode cX9_fault 9 = .ok (.invokevirtual 128, 3) := by decide +kernel
theorem dX9_fault_12 : decode cX9_fault 12 = .ok (.goto 5, 3) := by decide +kernel
theorem dX9_fault_15 : decode cX9_fault 15 = .ok (.bipush (-2), 2) := by decide +kernel
theorem dX9_fault_17 : decode cX9_fault 17 = .ok (.ireturn, 1) := by decide +kernel
def fX9_fault (a1 : Int32) (h : fd_H) : Option (Int32 × fd_H) :=
(fX9_isText a1).bind fun r2 =>
if r2 = true then (
(fX9_faultOf a1 h).bind fun q5 =>
some (q5.1, q5.2))
else (
some ((-2 : Int32), h))
set_option maxRecDepth 100000 in
set_option maxHeartbeats 4000000 in
theorem sX9_fault {g : fd_G} {hm : fd_H} {a1 : Int32} {r : Int32 × fd_H} {h : fd_H} (hf : fX9_fault a1 h = some r) : fd_S g mX9_fault 5 [.ref (g.2.2.2 + 73), .int a1] fd_X0 (fd_mx hm h) (some (.int r.1)) fd_X0 (fd_mx hm r.2) 0 0 := by
  refine fd_S.of (by decide +kernel) (Nat.le_of_ble_eq_true rfl) ?_
  unfold fX9_fault at hf
  refine fr_loc (lv' := [(0, .ref (g.2.2.2 + 73)), (1, .int a1)]) [0, 1] rfl ?_
  refine fr_iload_n (pc := 0) dX9_fault_0 1 rfl rfl ?_
  obtain ⟨r2, hc1, hf⟩ := fd_bi hf
  refine fr_callSz (pc := 1) (av := [.int a1]) dX9_fault_1 yy_X9_isText kw_239 rfl rfl (Nat.le_of_ble_eq_true rfl) ⟨Nat.le_of_ble_eq_true rfl, Nat.le_of_ble_eq_true rfl, Nat.zero_le _, Nat.zero_le _⟩ (sX9_isText hc1) ?_
  refine fr_bz (pc := 4) 15 dX9_fault_4 (by decide) (fun c3 => ?_) (fun c3 => ?_)
  · have hf := fd_f c3 hf
    refine fr_bipush (pc := 15) (v := (-2 : Int32)) dX9_fault_15 (by decide) ?_
    exact vm_iretW (x := (-2 : Int32)) (pc := 17) dX9_fault_17 rfl hf
  · have hf := fd_t c3 hf
    refine fr_aload_n (pc := 7) dX9_fault_7 0 rfl rfl ?_
    refine fr_iload_n (pc := 8) dX9_fault_8 1 rfl rfl ?_
    obtain ⟨q5, hc4, hf⟩ := fd_bi hf
    refine fr_callVi (pc := 9) (av := [.int a1]) dX9_fault_9 yy_X9_faultOf kw_506 (by decide) rfl rfl rfl rfl (Nat.le_of_ble_eq_true rfl) ⟨Nat.le_of_ble_eq_true rfl, Nat.le_of_ble_eq_true rfl, Nat.zero_le _, Nat.zero_le _⟩ (sX9_faultOf hc4) ?_
    refine fr_goto (pc := 12) 17 dX9_fault_12 (by decide) ?_
    exact vm_iretW (x := q5.1) (pc := 17) dX9_fault_17 rfl hf
theorem dX8_digest_0 : decode cX8_digest 0 = .ok (.ldc2_w 274, 3) := by decide +kernel
theorem dX8_digest_3 : decode cX8_digest 3 = .ok (.lstore_n 1, 1) := by decide +kernel
theorem dX8_digest_4 : decode cX8_digest 4 = .ok (.iconst 0, 1) := by decide +kernel
theorem dX8_digest_5 : decode cX8_digest 5 = .ok (.istore_n 3, 1) := by decide +kernel
theorem dX8_digest_6 : decode cX8_digest 6 = .ok (.iload_n 3, 1) := by decide +kernel
theorem dX8_digest_7 : decode cX8_digest 7 = .ok (.bipush 8, 2) := by decide +kernel
theorem dX8_digest_9 : decode cX8_digest 9 = .ok (.if_icmp .ge 20, 3) := by decide +kernel
theorem dX8_digest_12 : decode cX8_digest 12 = .ok (.lload_n 1, 1) := by decide +kernel
theorem dX8_digest_13 : decode cX8_digest 13 = .ok (.aload_n 0, 1) := by decide +kernel
theorem dX8_digest_14 : decode cX8_digest 14 = .ok (.iload_n 3, 1) := by decide +kernel
theorem dX8_digest_15 : decode cX8_digest 15 = .ok (.invokevirtual 276, 3) := by decide +kernel
theorem dX8_digest_18 : decode cX8_digest 18 = .ok (.i2l, 1) := by decide +kernel
theorem dX8_digest_19 : decode cX8_digest 19 = .ok (.invokestatic 279, 3) := by decide +kernel
theorem dX8_digest_22 : decode cX8_digest 22 = .ok (.lstore_n 1, 1) := by decide +kernel
theorem dX8_digest_23 : decode cX8_digest 23 = .ok (.iinc 3 1, 3) := by decide +kernel
theorem dX8_digest_26 : decode cX8_digest 26 = .ok (.goto (-20), 3) := by decide +kernel
theorem dX8_digest_29 : decode cX8_digest 29 = .ok (.iconst 0, 1) := by decide +kernel
theorem dX8_digest_30 : decode cX8_digest 30 = .ok (.istore_n 3, 1) := by decide +kernel
theorem dX8_digest_31 : decode cX8_digest 31 = .ok (.iload_n 3, 1) := by decide +kernel
theorem dX8_digest_32 : decode cX8_digest 32 = .ok (.iconst 3, 1) := by decide +kernel
theorem dX8_digest_33 : decode cX8_digest 33 = .ok (.if_icmp .ge 20, 3) := by decide +kernel
theorem dX8_digest_36 : decode cX8_digest 36 = .ok (.lload_n 1, 1) := by decide +kernel
theorem dX8_digest_37 : decode cX8_digest 37 = .ok (.aload_n 0, 1) := by decide +kernel
theorem dX8_digest_38 : decode cX8_digest 38 = .ok (.iload_n 3, 1) := by decide +kernel
theorem dX8_digest_39 : decode cX8_digest 39 = .ok (.invokevirtual 283, 3) := by decide +kernel
theorem dX8_digest_42 : decode cX8_digest 42 = .ok (.i2l, 1) := by decide +kernel
theorem dX8_digest_43 : decode cX8_digest 43 = .ok (.invokestatic 279, 3) := by decide +kernel
theorem dX8_digest_46 : decode cX8_digest 46 = .ok (.lstore_n 1, 1) := by decide +kernel
theorem dX8_digest_47 : decode cX8_digest 47 = .ok (.iinc 3 1, 3) := by decide +kernel
theorem dX8_digest_50 : decode cX8_digest 50 = .ok (.goto (-19), 3) := by decide +kernel
theorem dX8_digest_53 : decode cX8_digest 53 = .ok (.iconst 0, 1) := by decide +kernel
theorem dX8_digest_54 : decode cX8_digest 54 = .ok (.istore_n 3, 1) := by decide +kernel
theorem dX8_digest_55 : decode cX8_digest 55 = .ok (.iload_n 3, 1) := by decide +kernel
theorem dX8_digest_56 : decode cX8_digest 56 = .ok (.aload_n 0, 1) := by decide +kernel
theorem dX8_digest_57 : decode cX8_digest 57 = .ok (.getfield 29, 3) := by decide +kernel
theorem dX8_digest_60 : decode cX8_digest 60 = .ok (.getfield 150, 3) := by decide +kernel
theorem dX8_digest_63 : decode cX8_digest 63 = .ok (.if_icmp .ge 16, 3) := by decide +kernel
theorem dX8_digest_66 : decode cX8_digest 66 = .ok (.aload_n 0, 1) := by decide +kernel
theorem dX8_digest_67 : decode cX8_digest 67 = .ok (.lload_n 1, 1) := by decide +kernel
theorem dX8_digest_68 : decode cX8_digest 68 = .ok (.iload_n 3, 1) := by decide +kernel
theorem dX8_digest_69 : decode cX8_digest 69 = .ok (.invokevirtual 286, 3) := by decide +kernel
theorem dX8_digest_72 : decode cX8_digest 72 = .ok (.lstore_n 1, 1) := by decide +kernel
theorem dX8_digest_73 : decode cX8_digest 73 = .ok (.iinc 3 1, 3) := by decide +kernel
theorem dX8_digest_76 : decode cX8_digest 76 = .ok (.goto (-21), 3) := by decide +kernel
theorem dX8_digest_79 : decode cX8_digest 79 = .ok (.iconst 0, 1) := by decide +kernel
theorem dX8_digest_80 : decode cX8_digest 80 = .ok (.istore_n 3, 1) := by decide +kernel
theorem dX8_digest_81 : decode cX8_digest 81 = .ok (.iload_n 3, 1) := by decide +kernel
theorem dX8_digest_82 : decode cX8_digest 82 = .ok (.aload_n 0, 1) := by decide +kernel
theorem dX8_digest_83 : decode cX8_digest 83 = .ok (.getfield 33, 3) := by decide +kernel
theorem dX8_digest_86 : decode cX8_digest 86 = .ok (.getfield 104, 3) := by decide +kernel
theorem dX8_digest_89 : decode cX8_digest 89 = .ok (.if_icmp .ge 16, 3) := by decide +kernel
theorem dX8_digest_92 : decode cX8_digest 92 = .ok (.aload_n 0, 1) := by decide +kernel
theorem dX8_digest_93 : decode cX8_digest 93 = .ok (.lload_n 1, 1) := by decide +kernel
theorem dX8_digest_94 : decode cX8_digest 94 = .ok (.iload_n 3, 1) := by decide +kernel
theorem dX8_digest_95 : decode cX8_digest 95 = .ok (.invokevirtual 290, 3) := by decide +kernel
theorem dX8_digest_98 : decode cX8_digest 98 = .ok (.lstore_n 1, 1) := by decide +kernel
theorem dX8_digest_99 : decode cX8_digest 99 = .ok (.iinc 3 1, 3) := by decide +kernel
theorem dX8_digest_102 : decode cX8_digest 102 = .ok (.goto (-21), 3) := by decide +kernel
theorem dX8_digest_105 : decode cX8_digest 105 = .ok (.iconst 0, 1) := by decide +kernel
theorem dX8_digest_106 : decode cX8_digest 106 = .ok (.istore_n 3, 1) := by decide +kernel
theorem dX8_digest_107 : decode cX8_digest 107 = .ok (.iload_n 3, 1) := by decide +kernel
theorem dX8_digest_108 : decode cX8_digest 108 = .ok (.bipush 6, 2) := by decide +kernel
theorem dX8_digest_110 : decode cX8_digest 110 = .ok (.if_icmp .ge 16, 3) := by decide +kernel
theorem dX8_digest_113 : decode cX8_digest 113 = .ok (.aload_n 0, 1) := by decide +kernel
theorem dX8_digest_114 : decode cX8_digest 114 = .ok (.lload_n 1, 1) := by decide +kernel
theorem dX8_digest_115 : decode cX8_digest 115 = .ok (.iload_n 3, 1) := by decide +kernel
theorem dX8_digest_116 : decode cX8_digest 116 = .ok (.invokevirtual 293, 3) := by decide +kernel
theorem dX8_digest_119 : decode cX8_digest 119 = .ok (.lstore_n 1, 1) := by decide +kernel
theorem dX8_digest_120 : decode cX8_digest 120 = .ok (.iinc 3 1, 3) := by decide +kernel
theorem dX8_digest_123 : decode cX8_digest 123 = .ok (.goto (-16), 3) := by decide +kernel
theorem dX8_digest_126 : decode cX8_digest 126 = .ok (.aload_n 0, 1) := by decide +kernel
theorem dX8_digest_127 : decode cX8_digest 127 = .ok (.lload_n 1, 1) := by decide +kernel
theorem dX8_digest_128 : decode cX8_digest 128 = .ok (.iconst 0, 1) := by decide +kernel
theorem dX8_digest_129 : decode cX8_digest 129 = .ok (.invokevirtual 296, 3) := by decide +kernel
theorem dX8_digest_132 : decode cX8_digest 132 = .ok (.lstore_n 1, 1) := by decide +kernel
theorem dX8_digest_133 : decode cX8_digest 133 = .ok (.aload_n 0, 1) := by decide +kernel
theorem dX8_digest_134 : decode cX8_digest 134 = .ok (.lload_n 1, 1) := by decide +kernel
theorem dX8_digest_135 : decode cX8_digest 135 = .ok (.iconst 5, 1) := by decide +kernel
theorem dX8_digest_136 : decode cX8_digest 136 = .ok (.invokevirtual 296, 3) := by decide +kernel
theorem dX8_digest_139 : decode cX8_digest 139 = .ok (.lstore_n 1, 1) := by decide +kernel
theorem dX8_digest_140 : decode cX8_digest 140 = .ok (.aload_n 0, 1) := by decide +kernel
theorem dX8_digest_141 : decode cX8_digest 141 = .ok (.lload_n 1, 1) := by decide +kernel
theorem dX8_digest_142 : decode cX8_digest 142 = .ok (.bipush 20, 2) := by decide +kernel
theorem dX8_digest_144 : decode cX8_digest 144 = .ok (.invokevirtual 296, 3) := by decide +kernel
theorem dX8_digest_147 : decode cX8_digest 147 = .ok (.lstore_n 1, 1) := by decide +kernel
theorem dX8_digest_148 : decode cX8_digest 148 = .ok (.aload_n 0, 1) := by decide +kernel
theorem dX8_digest_149 : decode cX8_digest 149 = .ok (.lload_n 1, 1) := by decide +kernel
theorem dX8_digest_150 : decode cX8_digest 150 = .ok (.bipush 39, 2) := by decide +kernel
theorem dX8_digest_152 : decode cX8_digest 152 = .ok (.invokevirtual 296, 3) := by decide +kernel
theorem dX8_digest_155 : decode cX8_digest 155 = .ok (.lstore_n 1, 1) := by decide +kernel
theorem dX8_digest_156 : decode cX8_digest 156 = .ok (.lload_n 1, 1) := by decide +kernel
theorem dX8_digest_157 : decode cX8_digest 157 = .ok (.aload_n 0, 1) := by decide +kernel
theorem dX8_digest_158 : decode cX8_digest 158 = .ok (.invokevirtual 299, 3) := by decide +kernel
theorem dX8_digest_161 : decode cX8_digest 161 = .ok (.i2l, 1) := by decide +kernel
theorem dX8_digest_162 : decode cX8_digest 162 = .ok (.invokestatic 279, 3) := by decide +kernel
theorem dX8_digest_165 : decode cX8_digest 165 = .ok (.aload_n 0, 1) := by decide +kernel
theorem dX8_digest_166 : decode cX8_digest 166 = .ok (.invokevirtual 303, 3) := by decide +kernel
theorem dX8_digest_169 : decode cX8_digest 169 = .ok (.i2l, 1) := by decide +kernel
theorem dX8_digest_170 : decode cX8_digest 170 = .ok (.invokestatic 279, 3) := by decide +kernel
theorem dX8_digest_173 : decode cX8_digest 173 = .ok (.aload_n 0, 1) := by decide +kernel
theorem dX8_digest_174 : decode cX8_digest 174 = .ok (.bipush 7, 2) := by decide +kernel
theorem dX8_digest_176 : decode cX8_digest 176 = .ok (.iconst (-1), 1) := by decide +kernel
theorem dX8_digest_177 : decode cX8_digest 177 = .ok (.invokevirtual 306, 3) := by decide +kernel
theorem dX8_digest_180 : decode cX8_digest 180 = .ok (.i2l, 1) := by decide +kernel
theorem dX8_digest_181 : decode cX8_digest 181 = .ok (.invokestatic 279, 3) := by decide +kernel
theorem dX8_digest_184 : decode cX8_digest 184 = .ok (.lreturn, 1) := by decide +kernel
def fX8_digest_L107  : Nat → Int64 → Int32 → fd_H → Option (Int64 × fd_H)
  | 0 => fun _ _ _ => none
  | n + 1 => fun v1 v3 h =>
if (6 : Int32) ≤ v3 then (
(fX8_mixNight v1 (0 : Int32) h).bind fun q3 =>
(fX8_mixNight q3.1 (5 : Int32) q3.2).bind fun q5 =>
(fX8_mixNight q5.1 (20 : Int32) q5.2).bind fun q7 =>
(fX8_mixNight q7.1 (39 : Int32) q7.2).bind fun q9 =>
(fX8_never q9.2).bind fun r11 =>
(fX8_mix q9.1 ((r11).toInt64)).bind fun r13 =>
(fX8_carried q9.2).bind fun q15 =>
(fX8_mix r13 ((q15.1).toInt64)).bind fun r17 =>
(fX8_year (7 : Int32) (-1 : Int32) q15.2).bind fun q19 =>
(fX8_mix r17 ((q19.1).toInt64)).bind fun r21 =>
some (r21, q19.2))
else (
(fX8_mixPerson v1 v3 h).bind fun r23 =>
fX8_digest_L107  n r23 (v3 + (1 : Int32)) h)
set_option maxRecDepth 100000 in
set_option maxHeartbeats 4000000 in
theorem sX8_digest_L107 {g : fd_G} {hm : fd_H} {r : Int64 × fd_H} : ∀ (n : Nat) (v1 : Int64) (v3 : Int32) (h : fd_H), fX8_digest_L107  n v1 v3 h = some r → fd_A g mX8_digest fd_E (fd_rm 6 0 0) (fd_Q g (some (.long r.1)) fd_X0 (fd_mx r.2 hm) 0 0) 107 [(0, .ref (g.2.2.2 + 0)), (1, .long v1), (3, .int v3)] [] fd_X0 (fd_mx h hm) 0 0 := by
  intro n
  induction n with
  | zero =>
    intro _ _ _ hf
    cases hf
  | succ n ih =>
    intro v1 v3 h hf
    rw [fX8_digest_L107] at hf
    refine fr_iload_n (pc := 107) dX8_digest_107 2 rfl rfl ?_
    refine fr_bipush (pc := 108) (v := (6 : Int32)) dX8_digest_108 (by decide) ?_
    refine fr_icmp_ge (pc := 110) 126 dX8_digest_110 (by decide) (fun c1 => ?_) (fun c1 => ?_)
    · have hf := fd_t c1 hf
      refine fr_aload_n (pc := 126) dX8_digest_126 0 rfl rfl ?_
      refine fr_lload_n (pc := 127) dX8_digest_127 1 rfl rfl ?_
      refine fr_iconst (pc := 128) (v := (0 : Int32)) dX8_digest_128 (by decide) ?_
      obtain ⟨q3, hc2, hf⟩ := fd_bi hf
      refine fr_callVl (pc := 129) (av := [.long v1, .int (0 : Int32)]) dX8_digest_129 yy_X8_mixNight kw_527 (by decide) rfl rfl rfl rfl (Nat.le_of_ble_eq_true rfl) ⟨Nat.le_of_ble_eq_true rfl, Nat.le_of_ble_eq_true rfl, Nat.zero_le _, Nat.zero_le _⟩ (sX8_mixNight hc2) ?_
      refine fr_lstore_n (pc := 132) (lv' := [(1, .long q3.1), (0, .ref (g.2.2.2 + 0)), (3, .int v3)]) dX8_digest_132 rfl (by decide) rfl ?_
      refine fr_aload_n (pc := 133) dX8_digest_133 1 rfl rfl ?_
      refine fr_lload_n (pc := 134) dX8_digest_134 0 rfl rfl ?_
      refine fr_iconst (pc := 135) (v := (5 : Int32)) dX8_digest_135 (by decide) ?_
      obtain ⟨q5, hc4, hf⟩ := fd_bi hf
      refine fr_callVl (pc := 136) (av := [.long q3.1, .int (5 : Int32)]) dX8_digest_136 yy_X8_mixNight kw_527 (by decide) rfl rfl rfl rfl (Nat.le_of_ble_eq_true rfl) ⟨Nat.le_of_ble_eq_true rfl, Nat.le_of_ble_eq_true rfl, Nat.zero_le _, Nat.zero_le _⟩ (sX8_mixNight hc4) ?_
      refine fr_lstore_n (pc := 139) (lv' := [(1, .long q5.1), (0, .ref (g.2.2.2 + 0)), (3, .int v3)]) dX8_digest_139 rfl (by decide) rfl ?_
      refine fr_aload_n (pc := 140) dX8_digest_140 1 rfl rfl ?_
      refine fr_lload_n (pc := 141) dX8_digest_141 0 rfl rfl ?_
      refine fr_bipush (pc := 142) (v := (20 : Int32)) dX8_digest_142 (by decide) ?_
      obtain ⟨q7, hc6, hf⟩ := fd_bi hf
      refine fr_callVl (pc := 144) (av := [.long q5.1, .int (20 : Int32)]) dX8_digest_144 yy_X8_mixNight kw_527 (by decide) rfl rfl rfl rfl (Nat.le_of_ble_eq_true rfl) ⟨Nat.le_of_ble_eq_true rfl, Nat.le_of_ble_eq_true rfl, Nat.zero_le _, Nat.zero_le _⟩ (sX8_mixNight hc6) ?_
      refine fr_lstore_n (pc := 147) (lv' := [(1, .long q7.1), (0, .ref (g.2.2.2 + 0)), (3, .int v3)]) dX8_digest_147 rfl (by decide) rfl ?_
      refine fr_aload_n (pc := 148) dX8_digest_148 1 rfl rfl ?_
      refine fr_lload_n (pc := 149) dX8_digest_149 0 rfl rfl ?_
      refine fr_bipush (pc := 150) (v := (39 : Int32)) dX8_digest_150 (by decide) ?_
      obtain ⟨q9, hc8, hf⟩ := fd_bi hf
      refine fr_callVl (pc := 152) (av := [.long q7.1, .int (39 : Int32)]) dX8_digest_152 yy_X8_mixNight kw_527 (by decide) rfl rfl rfl rfl (Nat.le_of_ble_eq_true rfl) ⟨Nat.le_of_ble_eq_true rfl, Nat.le_of_ble_eq_true rfl, Nat.zero_le _, Nat.zero_le _⟩ (sX8_mixNight hc8) ?_
      refine fr_lstore_n (pc := 155) (lv' := [(1, .long q9.1), (0, .ref (g.2.2.2 + 0)), (3, .int v3)]) dX8_digest_155 rfl (by decide) rfl ?_
      refine fr_lload_n (pc := 156) dX8_digest_156 0 rfl rfl ?_
      refine fr_aload_n (pc := 157) dX8_digest_157 1 rfl rfl ?_
      obtain ⟨r11, hc10, hf⟩ := fd_bi hf
      refine fr_callVi (pc := 158) (av := []) dX8_digest_158 yy_X8_never kw_531 (by decide) rfl rfl rfl rfl (Nat.le_of_ble_eq_true rfl) ⟨Nat.le_of_ble_eq_true rfl, Nat.le_of_ble_eq_true rfl, Nat.zero_le _, Nat.zero_le _⟩ (sX8_never hc10) ?_
      refine fr_i2l (pc := 161) dX8_digest_161 ?_
      obtain ⟨r13, hc12, hf⟩ := fd_bi hf
      refine fr_callSl (pc := 162) (av := [.long q9.1, .long ((r11).toInt64)]) dX8_digest_162 yy_X8_mix kw_416 rfl rfl (Nat.le_of_ble_eq_true rfl) ⟨Nat.le_of_ble_eq_true rfl, Nat.le_of_ble_eq_true rfl, Nat.zero_le _, Nat.zero_le _⟩ (sX8_mix hc12) ?_
      refine fr_aload_n (pc := 165) dX8_digest_165 1 rfl rfl ?_
      obtain ⟨q15, hc14, hf⟩ := fd_bi hf
      refine fr_callVi (pc := 166) (av := []) dX8_digest_166 yy_X8_carried kw_535 (by decide) rfl rfl rfl rfl (Nat.le_of_ble_eq_true rfl) ⟨Nat.le_of_ble_eq_true rfl, Nat.le_of_ble_eq_true rfl, Nat.zero_le _, Nat.zero_le _⟩ (sX8_carried hc14) ?_
      refine fr_i2l (pc := 169) dX8_digest_169 ?_
      obtain ⟨r17, hc16, hf⟩ := fd_bi hf
      refine fr_callSl (pc := 170) (av := [.long r13, .long ((q15.1).toInt64)]) dX8_digest_170 yy_X8_mix kw_416 rfl rfl (Nat.le_of_ble_eq_true rfl) ⟨Nat.le_of_ble_eq_true rfl, Nat.le_of_ble_eq_true rfl, Nat.zero_le _, Nat.zero_le _⟩ (sX8_mix hc16) ?_
      refine fr_aload_n (pc := 173) dX8_digest_173 1 rfl rfl ?_
      refine fr_bipush (pc := 174) (v := (7 : Int32)) dX8_digest_174 (by decide) ?_
      refine fr_iconst (pc := 176) (v := (-1 : Int32)) dX8_digest_176 (by decide) ?_
      obtain ⟨q19, hc18, hf⟩ := fd_bi hf
      refine fr_callVi (pc := 177) (av := [.int (7 : Int32), .int (-1 : Int32)]) dX8_digest_177 yy_X8_year kw_440 (by decide) rfl rfl rfl rfl (Nat.le_of_ble_eq_true rfl) ⟨Nat.le_of_ble_eq_true rfl, Nat.le_of_ble_eq_true rfl, Nat.zero_le _, Nat.zero_le _⟩ (sX8_year hc18) ?_
      refine fr_i2l (pc := 180) dX8_digest_180 ?_
      obtain ⟨r21, hc20, hf⟩ := fd_bi hf
      refine fr_callSl (pc := 181) (av := [.long r17, .long ((q19.1).toInt64)]) dX8_digest_181 yy_X8_mix kw_416 rfl rfl (Nat.le_of_ble_eq_true rfl) ⟨Nat.le_of_ble_eq_true rfl, Nat.le_of_ble_eq_true rfl, Nat.zero_le _, Nat.zero_le _⟩ (sX8_mix hc20) ?_
      exact vx_lretW (x := r21) (pc := 184) dX8_digest_184 rfl hf
    · have hf := fd_f c1 hf
      refine fr_aload_n (pc := 113) dX8_digest_113 0 rfl rfl ?_
      refine fr_lload_n (pc := 114) dX8_digest_114 1 rfl rfl ?_
      refine fr_iload_n (pc := 115) dX8_digest_115 2 rfl rfl ?_
      obtain ⟨r23, hc22, hf⟩ := fd_bi hf
      refine fr_callVl (pc := 116) (av := [.long v1, .int v3]) dX8_digest_116 yy_X8_mixPerson kw_539 (by decide) rfl rfl rfl rfl (Nat.le_of_ble_eq_true rfl) ⟨Nat.le_of_ble_eq_true rfl, Nat.le_of_ble_eq_true rfl, Nat.zero_le _, Nat.zero_le _⟩ (sX8_mixPerson hc22) ?_
      refine fr_lstore_n (pc := 119) (lv' := [(1, .long r23), (0, .ref (g.2.2.2 + 0)), (3, .int v3)]) dX8_digest_119 rfl (by decide) rfl ?_
      refine fr_iinc (pc := 120) (v := (v3 + (1 : Int32))) (lv' := [(3, .int (v3 + (1 : Int32))), (1, .long r23), (0, .ref (g.2.2.2 + 0))]) dX8_digest_120 2 rfl rfl (by decide) rfl ?_
      refine fr_goto (pc := 123) 107 dX8_digest_123 (by decide) ?_
      refine fr_loc (lv' := [(0, .ref (g.2.2.2 + 0)), (1, .long r23), (3, .int (v3 + (1 : Int32)))]) [2, 1, 0] rfl ?_
      exact ih _ _ _ hf
def fX8_digest_L81  : Nat → Int64 → Int32 → fd_H → Option (Int64 × fd_H)
  | 0 => fun _ _ _ => none
  | n + 1 => fun v1 v3 h =>
if (h.1 48 1) ≤ v3 then (
fX8_digest_L107  fd_fu v1 (0 : Int32) h)
else (
(fX8_mixDebt v1 v3 h).bind fun r3 =>
fX8_digest_L81  n r3 (v3 + (1 : Int32)) h)
set_option maxRecDepth 100000 in
set_option maxHeartbeats 4000000 in
theorem sX8_digest_L81 {g : fd_G} {hm : fd_H} {r : Int64 × fd_H} : ∀ (n : Nat) (v1 : Int64) (v3 : Int32) (h : fd_H), fX8_digest_L81  n v1 v3 h = some r → fd_A g mX8_digest fd_E (fd_rm 6 0 0) (fd_Q g (some (.long r.1)) fd_X0 (fd_mx r.2 hm) 0 0) 81 [(0, .ref (g.2.2.2 + 0)), (1, .long v1), (3, .int v3)] [] fd_X0 (fd_mx h hm) 0 0 := by
  intro n
  induction n with
  | zero =>
    intro _ _ _ hf
    cases hf
  | succ n ih =>
    intro v1 v3 h hf
    rw [fX8_digest_L81] at hf
    refine fr_iload_n (pc := 81) dX8_digest_81 2 rfl rfl ?_
    refine fr_aload_n (pc := 82) dX8_digest_82 0 rfl rfl ?_
    refine fr_getR (pc := 83) dX8_digest_83 fl_X8_33 (by decide) rfl rfl ?_
    refine vx_getI (pc := 86) dX8_digest_86 fl_X8_104 (by decide) (by decide) rfl rfl ?_
    refine fr_icmp_ge (pc := 89) 105 dX8_digest_89 (by decide) (fun c1 => ?_) (fun c1 => ?_)
    · have hf := fd_t c1 hf
      refine fr_iconst (pc := 105) (v := (0 : Int32)) dX8_digest_105 (by decide) ?_
      refine fr_istore_n (pc := 106) (lv' := [(3, .int (0 : Int32)), (0, .ref (g.2.2.2 + 0)), (1, .long v1)]) dX8_digest_106 rfl (by decide) rfl ?_
      refine fr_loc (lv' := [(0, .ref (g.2.2.2 + 0)), (1, .long v1), (3, .int (0 : Int32))]) [1, 2, 0] rfl ?_
      exact sX8_digest_L107 _  _ _ _ hf
    · have hf := fd_f c1 hf
      refine fr_aload_n (pc := 92) dX8_digest_92 0 rfl rfl ?_
      refine fr_lload_n (pc := 93) dX8_digest_93 1 rfl rfl ?_
      refine fr_iload_n (pc := 94) dX8_digest_94 2 rfl rfl ?_
      obtain ⟨r3, hc2, hf⟩ := fd_bi hf
      refine fr_callVl (pc := 95) (av := [.long v1, .int v3]) dX8_digest_95 yy_X8_mixDebt kw_523 (by decide) rfl rfl rfl rfl (Nat.le_of_ble_eq_true rfl) ⟨Nat.le_of_ble_eq_true rfl, Nat.le_of_ble_eq_true rfl, Nat.zero_le _, Nat.zero_le _⟩ (sX8_mixDebt hc2) ?_
      refine fr_lstore_n (pc := 98) (lv' := [(1, .long r3), (0, .ref (g.2.2.2 + 0)), (3, .int v3)]) dX8_digest_98 rfl (by decide) rfl ?_
      refine fr_iinc (pc := 99) (v := (v3 + (1 : Int32))) (lv' := [(3, .int (v3 + (1 : Int32))), (1, .long r3), (0, .ref (g.2.2.2 + 0))]) dX8_digest_99 2 rfl rfl (by decide) rfl ?_
      refine fr_goto (pc := 102) 81 dX8_digest_102 (by decide) ?_
      refine fr_loc (lv' := [(0, .ref (g.2.2.2 + 0)), (1, .long r3), (3, .int (v3 + (1 : Int32)))]) [2, 1, 0] rfl ?_
      exact ih _ _ _ hf
def fX8_digest_L55  : Nat → Int64 → Int32 → fd_H → Option (Int64 × fd_H)
  | 0 => fun _ _ _ => none
  | n + 1 => fun v1 v3 h =>
if (h.1 12 3) ≤ v3 then (
fX8_digest_L81  fd_fu v1 (0 : Int32) h)
else (
(fX8_mixPlace v1 v3 h).bind fun q3 =>
fX8_digest_L55  n q3.1 (v3 + (1 : Int32)) q3.2)
set_option maxRecDepth 100000 in
set_option maxHeartbeats 4000000 in
theorem sX8_digest_L55 {g : fd_G} {hm : fd_H} {r : Int64 × fd_H} : ∀ (n : Nat) (v1 : Int64) (v3 : Int32) (h : fd_H), fX8_digest_L55  n v1 v3 h = some r → fd_A g mX8_digest fd_E (fd_rm 6 0 0) (fd_Q g (some (.long r.1)) fd_X0 (fd_mx r.2 hm) 0 0) 55 [(0, .ref (g.2.2.2 + 0)), (1, .long v1), (3, .int v3)] [] fd_X0 (fd_mx h hm) 0 0 := by
  intro n
  induction n with
  | zero =>
    intro _ _ _ hf
    cases hf
  | succ n ih =>
    intro v1 v3 h hf
    rw [fX8_digest_L55] at hf
    refine fr_iload_n (pc := 55) dX8_digest_55 2 rfl rfl ?_
    refine fr_aload_n (pc := 56) dX8_digest_56 0 rfl rfl ?_
    refine fr_getR (pc := 57) dX8_digest_57 fl_X8_29 (by decide) rfl rfl ?_
    refine vx_getI (pc := 60) dX8_digest_60 fl_X8_150 (by decide) (by decide) rfl rfl ?_
    refine fr_icmp_ge (pc := 63) 79 dX8_digest_63 (by decide) (fun c1 => ?_) (fun c1 => ?_)
    · have hf := fd_t c1 hf
      refine fr_iconst (pc := 79) (v := (0 : Int32)) dX8_digest_79 (by decide) ?_
      refine fr_istore_n (pc := 80) (lv' := [(3, .int (0 : Int32)), (0, .ref (g.2.2.2 + 0)), (1, .long v1)]) dX8_digest_80 rfl (by decide) rfl ?_
      refine fr_loc (lv' := [(0, .ref (g.2.2.2 + 0)), (1, .long v1), (3, .int (0 : Int32))]) [1, 2, 0] rfl ?_
      exact sX8_digest_L81 _  _ _ _ hf
    · have hf := fd_f c1 hf
      refine fr_aload_n (pc := 66) dX8_digest_66 0 rfl rfl ?_
      refine fr_lload_n (pc := 67) dX8_digest_67 1 rfl rfl ?_
      refine fr_iload_n (pc := 68) dX8_digest_68 2 rfl rfl ?_
      obtain ⟨q3, hc2, hf⟩ := fd_bi hf
      refine fr_callVl (pc := 69) (av := [.long v1, .int v3]) dX8_digest_69 yy_X8_mixPlace kw_519 (by decide) rfl rfl rfl rfl (Nat.le_of_ble_eq_true rfl) ⟨Nat.le_of_ble_eq_true rfl, Nat.le_of_ble_eq_true rfl, Nat.zero_le _, Nat.zero_le _⟩ (sX8_mixPlace hc2) ?_
      refine fr_lstore_n (pc := 72) (lv' := [(1, .long q3.1), (0, .ref (g.2.2.2 + 0)), (3, .int v3)]) dX8_digest_72 rfl (by decide) rfl ?_
      refine fr_iinc (pc := 73) (v := (v3 + (1 : Int32))) (lv' := [(3, .int (v3 + (1 : Int32))), (1, .long q3.1), (0, .ref (g.2.2.2 + 0))]) dX8_digest_73 2 rfl rfl (by decide) rfl ?_
      refine fr_goto (pc := 76) 55 dX8_digest_76 (by decide) ?_
      refine fr_loc (lv' := [(0, .ref (g.2.2.2 + 0)), (1, .long q3.1), (3, .int (v3 + (1 : Int32)))]) [2, 1, 0] rfl ?_
      exact ih _ _ _ hf
def fX8_digest_L31  : Nat → Int64 → Int32 → fd_H → Option (Int64 × fd_H)
  | 0 => fun _ _ _ => none
  | n + 1 => fun v1 v3 h =>
if (3 : Int32) ≤ v3 then (
fX8_digest_L55  fd_fu v1 (0 : Int32) h)
else (
(fX8_fault v3 h).bind fun r3 =>
(fX8_mix v1 ((r3).toInt64)).bind fun r5 =>
fX8_digest_L31  n r5 (v3 + (1 : Int32)) h)
set_option maxRecDepth 100000 in
set_option maxHeartbeats 4000000 in
theorem sX8_digest_L31 {g : fd_G} {hm : fd_H} {r : Int64 × fd_H} : ∀ (n : Nat) (v1 : Int64) (v3 : Int32) (h : fd_H), fX8_digest_L31  n v1 v3 h = some r → fd_A g mX8_digest fd_E (fd_rm 6 0 0) (fd_Q g (some (.long r.1)) fd_X0 (fd_mx r.2 hm) 0 0) 31 [(0, .ref (g.2.2.2 + 0)), (1, .long v1), (3, .int v3)] [] fd_X0 (fd_mx h hm) 0 0 := by
  intro n
  induction n with
  | zero =>
    intro _ _ _ hf
    cases hf
  | succ n ih =>
    intro v1 v3 h hf
    rw [fX8_digest_L31] at hf
    refine fr_iload_n (pc := 31) dX8_digest_31 2 rfl rfl ?_
    refine fr_iconst (pc := 32) (v := (3 : Int32)) dX8_digest_32 (by decide) ?_
    refine fr_icmp_ge (pc := 33) 53 dX8_digest_33 (by decide) (fun c1 => ?_) (fun c1 => ?_)
    · have hf := fd_t c1 hf
      refine fr_iconst (pc := 53) (v := (0 : Int32)) dX8_digest_53 (by decide) ?_
      refine fr_istore_n (pc := 54) (lv' := [(3, .int (0 : Int32)), (0, .ref (g.2.2.2 + 0)), (1, .long v1)]) dX8_digest_54 rfl (by decide) rfl ?_
      refine fr_loc (lv' := [(0, .ref (g.2.2.2 + 0)), (1, .long v1), (3, .int (0 : Int32))]) [1, 2, 0] rfl ?_
      exact sX8_digest_L55 _  _ _ _ hf
    · have hf := fd_f c1 hf
      refine fr_lload_n (pc := 36) dX8_digest_36 1 rfl rfl ?_
      refine fr_aload_n (pc := 37) dX8_digest_37 0 rfl rfl ?_
      refine fr_iload_n (pc := 38) dX8_digest_38 2 rfl rfl ?_
      obtain ⟨r3, hc2, hf⟩ := fd_bi hf
      refine fr_callVi (pc := 39) (av := [.int v3]) dX8_digest_39 yy_X8_fault kw_515 (by decide) rfl rfl rfl rfl (Nat.le_of_ble_eq_true rfl) ⟨Nat.le_of_ble_eq_true rfl, Nat.le_of_ble_eq_true rfl, Nat.zero_le _, Nat.zero_le _⟩ (sX8_fault hc2) ?_
      refine fr_i2l (pc := 42) dX8_digest_42 ?_
      obtain ⟨r5, hc4, hf⟩ := fd_bi hf
      refine fr_callSl (pc := 43) (av := [.long v1, .long ((r3).toInt64)]) dX8_digest_43 yy_X8_mix kw_416 rfl rfl (Nat.le_of_ble_eq_true rfl) ⟨Nat.le_of_ble_eq_true rfl, Nat.le_of_ble_eq_true rfl, Nat.zero_le _, Nat.zero_le _⟩ (sX8_mix hc4) ?_
      refine fr_lstore_n (pc := 46) (lv' := [(1, .long r5), (0, .ref (g.2.2.2 + 0)), (3, .int v3)]) dX8_digest_46 rfl (by decide) rfl ?_
      refine fr_iinc (pc := 47) (v := (v3 + (1 : Int32))) (lv' := [(3, .int (v3 + (1 : Int32))), (1, .long r5), (0, .ref (g.2.2.2 + 0))]) dX8_digest_47 2 rfl rfl (by decide) rfl ?_
      refine fr_goto (pc := 50) 31 dX8_digest_50 (by decide) ?_
      refine fr_loc (lv' := [(0, .ref (g.2.2.2 + 0)), (1, .long r5), (3, .int (v3 + (1 : Int32)))]) [2, 1, 0] rfl ?_
      exact ih _ _ _ hf
def fX8_digest_L6  : Nat → Int64 → Int32 → fd_H → Option (Int64 × fd_H)
  | 0 => fun _ _ _ => none
  | n + 1 => fun v1 v3 h =>
if (8 : Int32) ≤ v3 then (
fX8_digest_L31  fd_fu v1 (0 : Int32) h)
else (
(fX8_count v3 h).bind fun r3 =>
(fX8_mix v1 ((r3).toInt64)).bind fun r5 =>
fX8_digest_L6  n r5 (v3 + (1 : Int32)) h)
set_option maxRecDepth 100000 in
set_option maxHeartbeats 4000000 in
theorem sX8_digest_L6 {g : fd_G} {hm : fd_H} {r : Int64 × fd_H} : ∀ (n : Nat) (v1 : Int64) (v3 : Int32) (h : fd_H), fX8_digest_L6  n v1 v3 h = some r → fd_A g mX8_digest fd_E (fd_rm 6 0 0) (fd_Q g (some (.long r.1)) fd_X0 (fd_mx r.2 hm) 0 0) 6 [(0, .ref (g.2.2.2 + 0)), (1, .long v1), (3, .int v3)] [] fd_X0 (fd_mx h hm) 0 0 := by
  intro n
  induction n with
  | zero =>
    intro _ _ _ hf
    cases hf
  | succ n ih =>
    intro v1 v3 h hf
    rw [fX8_digest_L6] at hf
    refine fr_iload_n (pc := 6) dX8_digest_6 2 rfl rfl ?_
    refine fr_bipush (pc := 7) (v := (8 : Int32)) dX8_digest_7 (by decide) ?_
    refine fr_icmp_ge (pc := 9) 29 dX8_digest_9 (by decide) (fun c1 => ?_) (fun c1 => ?_)
    · have hf := fd_t c1 hf
      refine fr_iconst (pc := 29) (v := (0 : Int32)) dX8_digest_29 (by decide) ?_
      refine fr_istore_n (pc := 30) (lv' := [(3, .int (0 : Int32)), (0, .ref (g.2.2.2 + 0)), (1, .long v1)]) dX8_digest_30 rfl (by decide) rfl ?_
      refine fr_loc (lv' := [(0, .ref (g.2.2.2 + 0)), (1, .long v1), (3, .int (0 : Int32))]) [1, 2, 0] rfl ?_
      exact sX8_digest_L31 _  _ _ _ hf
    · have hf := fd_f c1 hf
      refine fr_lload_n (pc := 12) dX8_digest_12 1 rfl rfl ?_
      refine fr_aload_n (pc := 13) dX8_digest_13 0 rfl rfl ?_
      refine fr_iload_n (pc := 14) dX8_digest_14 2 rfl rfl ?_
      obtain ⟨r3, hc2, hf⟩ := fd_bi hf
      refine fr_callVi (pc := 15) (av := [.int v3]) dX8_digest_15 yy_X8_count kw_511 (by decide) rfl rfl rfl rfl (Nat.le_of_ble_eq_true rfl) ⟨Nat.le_of_ble_eq_true rfl, Nat.le_of_ble_eq_true rfl, Nat.zero_le _, Nat.zero_le _⟩ (sX8_count hc2) ?_
      refine fr_i2l (pc := 18) dX8_digest_18 ?_
      obtain ⟨r5, hc4, hf⟩ := fd_bi hf
      refine fr_callSl (pc := 19) (av := [.long v1, .long ((r3).toInt64)]) dX8_digest_19 yy_X8_mix kw_416 rfl rfl (Nat.le_of_ble_eq_true rfl) ⟨Nat.le_of_ble_eq_true rfl, Nat.le_of_ble_eq_true rfl, Nat.zero_le _, Nat.zero_le _⟩ (sX8_mix hc4) ?_
      refine fr_lstore_n (pc := 22) (lv' := [(1, .long r5), (0, .ref (g.2.2.2 + 0)), (3, .int v3)]) dX8_digest_22 rfl (by decide) rfl ?_
      refine fr_iinc (pc := 23) (v := (v3 + (1 : Int32))) (lv' := [(3, .int (v3 + (1 : Int32))), (1, .long r5), (0, .ref (g.2.2.2 + 0))]) dX8_digest_23 2 rfl rfl (by decide) rfl ?_
      refine fr_goto (pc := 26) 6 dX8_digest_26 (by decide) ?_
      refine fr_loc (lv' := [(0, .ref (g.2.2.2 + 0)), (1, .long r5), (3, .int (v3 + (1 : Int32)))]) [2, 1, 0] rfl ?_
      exact ih _ _ _ hf
def fX8_digest  (h : fd_H) : Option (Int64 × fd_H) :=
fX8_digest_L6  fd_fu (17 : Int64) (0 : Int32) h
set_option maxRecDepth 100000 in
set_option maxHeartbeats 4000000 in
theorem sX8_digest {g : fd_G} {hm : fd_H} {r : Int64 × fd_H} {h : fd_H} (hf : fX8_digest  h = some r) : fd_S g mX8_digest 6 [.ref (g.2.2.2 + 0)] fd_X0 (fd_mx h hm) (some (.long r.1)) fd_X0 (fd_mx r.2 hm) 0 0 := by
  refine fd_S.of (by decide +kernel) (Nat.le_of_ble_eq_true rfl) ?_
  unfold fX8_digest at hf
  refine fr_loc (lv' := [(0, .ref (g.2.2.2 + 0))]) [0] rfl ?_
  refine fr_ldc2 (pc := 0) (v := (17 : Int64)) dX8_digest_0 kw_507 ?_
  refine fr_lstore_n (pc := 3) (lv' := [(1, .long (17 : Int64)), (0, .ref (g.2.2.2 + 0))]) dX8_digest_3 rfl (by decide) rfl ?_
  refine fr_iconst (pc := 4) (v := (0 : Int32)) dX8_digest_4 (by decide) ?_
  refine fr_istore_n (pc := 5) (lv' := [(3, .int (0 : Int32)), (1, .long (17 : Int64)), (0, .ref (g.2.2.2 + 0))]) dX8_digest_5 rfl (by decide) rfl ?_
  refine fr_loc (lv' := [(0, .ref (g.2.2.2 + 0)), (1, .long (17 : Int64)), (3, .int (0 : Int32))]) [2, 1, 0] rfl ?_
  exact sX8_digest_L6 _  _ _ _ hf
theorem dX9_isPlace_0 : decode cX9_isPlace 0 = .ok (.aload_n 0, 1) := by decide +kernel
theorem dX9_isPlace_1 : decode cX9_isPlace 1 = .ok (.invokevirtual 131, 3) := by decide +kernel
theorem dX9_isPlace_4 : decode cX9_isPlace 4 = .ok (.iload_n 1, 1) := by decide +kernel
theorem dX9_isPlace_5 : decode cX9_isPlace 5 = .ok (.iconst 0, 1) := by decide +kernel
theorem dX9_isPlace_6 : decode cX9_isPlace 6 = .ok (.aload_n 0, 1) := by decide +kernel
theorem dX9_isPlace_7 : decode cX9_isPlace 7 = .ok (.getfield 105, 3) := by decide +kernel
theorem dX9_isPlace_10 : decode cX9_isPlace 10 = .ok (.iconst 1, 1) := by decide +kernel
theorem dX9_isPlace_11 : decode cX9_isPlace 11 = .ok (.isub, 1) := by decide +kernel
theorem dX9_isPlace_12 : decode cX9_isPlace 12 = .ok (.invokestatic 89, 3) := by decide +kernel
theorem dX9_isPlace_15 : decode cX9_isPlace 15 = .ok (.ireturn, 1) := by decide +kernel
def fX9_isPlace (a1 : Int32) (h : fd_H) : Option (Bool × fd_H) :=
(fX9_reads h).bind fun h2 =>
(fX9_in a1 (0 : Int32) ((h2.1 73 2) - (1 : Int32))).bind fun r4 =>
some (r4, h2)
set_option maxRecDepth 100000 in
set_option maxHeartbeats 4000000 in
theorem sX9_isPlace {g : fd_G} {hm : fd_H} {a1 : Int32} {r : Bool × fd_H} {h : fd_H} (hf : fX9_isPlace a1 h = some r) : fd_S g mX9_isPlace 6 [.ref (g.2.2.2 + 73), .int a1] fd_X0 (fd_mx hm h) (some (.int (fd_b r.1))) fd_X0 (fd_mx hm r.2) 0 0 := by
  refine fd_S.of (by decide +kernel) (Nat.le_of_ble_eq_true rfl) ?_
  unfold fX9_isPlace at hf
  refine fr_loc (lv' := [(0, .ref (g.2.2.2 + 73)), (1, .int a1)]) [0, 1] rfl ?_
  refine fr_aload_n (pc := 0) dX9_isPlace_0 0 rfl rfl ?_
  obtain ⟨h2, hc1, hf⟩ := fd_bi hf
  refine fr_callVv (pc := 1) (av := []) dX9_isPlace_1 yy_X9_reads kw_543 (by decide) rfl rfl rfl rfl (Nat.le_of_ble_eq_true rfl) ⟨Nat.le_of_ble_eq_true rfl, Nat.le_of_ble_eq_true rfl, Nat.zero_le _, Nat.zero_le _⟩ (sX9_reads hc1) ?_
  refine fr_iload_n (pc := 4) dX9_isPlace_4 1 rfl rfl ?_
  refine fr_iconst (pc := 5) (v := (0 : Int32)) dX9_isPlace_5 (by decide) ?_
  refine fr_aload_n (pc := 6) dX9_isPlace_6 0 rfl rfl ?_
  refine vm_getI (pc := 7) dX9_isPlace_7 fl_X9_105 (by decide) (by decide) rfl rfl ?_
  refine fr_iconst (pc := 10) (v := (1 : Int32)) dX9_isPlace_10 (by decide) ?_
  refine fr_isub (pc := 11) dX9_isPlace_11 ?_
  obtain ⟨r4, hc3, hf⟩ := fd_bi hf
  refine fr_callSz (pc := 12) (av := [.int a1, .int (0 : Int32), .int ((h2.1 73 2) - (1 : Int32))]) dX9_isPlace_12 yy_X9_in kw_148 rfl rfl (Nat.le_of_ble_eq_true rfl) ⟨Nat.le_of_ble_eq_true rfl, Nat.le_of_ble_eq_true rfl, Nat.zero_le _, Nat.zero_le _⟩ (sX9_in hc3) ?_
  exact vm_zretW (x := r4) (pc := 15) dX9_isPlace_15 rfl hf
theorem dX9_isNight_0 : decode cX9_isNight 0 = .ok (.aload_n 0, 1) := by decide +kernel
theorem dX9_isNight_1 : decode cX9_isNight 1 = .ok (.invokevirtual 131, 3) := by decide +kernel
theorem dX9_isNight_4 : decode cX9_isNight 4 = .ok (.iload_n 1, 1) := by decide +kernel
theorem dX9_isNight_5 : decode cX9_isNight 5 = .ok (.iconst 0, 1) := by decide +kernel
theorem dX9_isNight_6 : decode cX9_isNight 6 = .ok (.aload_n 0, 1) := by decide +kernel
theorem dX9_isNight_7 : decode cX9_isNight 7 = .ok (.getfield 117, 3) := by decide +kernel
theorem dX9_isNight_10 : decode cX9_isNight 10 = .ok (.iconst 1, 1) := by decide +kernel
theorem dX9_isNight_11 : decode cX9_isNight 11 = .ok (.isub, 1) := by decide +kernel
theorem dX9_isNight_12 : decode cX9_isNight 12 = .ok (.invokestatic 89, 3) := by decide +kernel
theorem dX9_isNight_15 : decode cX9_isNight 15 = .ok (.ireturn, 1) := by decide +kernel
def fX9_isNight (a1 : Int32) (h : fd_H) : Option (Bool × fd_H) :=
(fX9_reads h).bind fun h2 =>
(fX9_in a1 (0 : Int32) ((h2.1 73 5) - (1 : Int32))).bind fun r4 =>
some (r4, h2)
set_option maxRecDepth 100000 in
set_option maxHeartbeats 4000000 in
theorem sX9_isNight {g : fd_G} {hm : fd_H} {a1 : Int32} {r : Bool × fd_H} {h : fd_H} (hf : fX9_isNight a1 h = some r) : fd_S g mX9_isNight 6 [.ref (g.2.2.2 + 73), .int a1] fd_X0 (fd_mx hm h) (some (.int (fd_b r.1))) fd_X0 (fd_mx hm r.2) 0 0 := by
  refine fd_S.of (by decide +kernel) (Nat.le_of_ble_eq_true rfl) ?_
  unfold fX9_isNight at hf
  refine fr_loc (lv' := [(0, .ref (g.2.2.2 + 73)), (1, .int a1)]) [0, 1] rfl ?_
  refine fr_aload_n (pc := 0) dX9_isNight_0 0 rfl rfl ?_
  obtain ⟨h2, hc1, hf⟩ := fd_bi hf
  refine fr_callVv (pc := 1) (av := []) dX9_isNight_1 yy_X9_reads kw_543 (by decide) rfl rfl rfl rfl (Nat.le_of_ble_eq_true rfl) ⟨Nat.le_of_ble_eq_true rfl, Nat.le_of_ble_eq_true rfl, Nat.zero_le _, Nat.zero_le _⟩ (sX9_reads hc1) ?_
  refine fr_iload_n (pc := 4) dX9_isNight_4 1 rfl rfl ?_
  refine fr_iconst (pc := 5) (v := (0 : Int32)) dX9_isNight_5 (by decide) ?_
  refine fr_aload_n (pc := 6) dX9_isNight_6 0 rfl rfl ?_
  refine vm_getI (pc := 7) dX9_isNight_7 fl_X9_117 (by decide) (by decide) rfl rfl ?_
  refine fr_iconst (pc := 10) (v := (1 : Int32)) dX9_isNight_10 (by decide) ?_
  refine fr_isub (pc := 11) dX9_isNight_11 ?_
  obtain ⟨r4, hc3, hf⟩ := fd_bi hf
  refine fr_callSz (pc := 12) (av := [.int a1, .int (0 : Int32), .int ((h2.1 73 5) - (1 : Int32))]) dX9_isNight_12 yy_X9_in kw_148 rfl rfl (Nat.le_of_ble_eq_true rfl) ⟨Nat.le_of_ble_eq_true rfl, Nat.le_of_ble_eq_true rfl, Nat.zero_le _, Nat.zero_le _⟩ (sX9_in hc3) ?_
  exact vm_zretW (x := r4) (pc := 15) dX9_isNight_15 rfl hf
theorem dX9_isDebt_0 : decode cX9_isDebt 0 = .ok (.aload_n 0, 1) := by decide +kernel
theorem dX9_isDebt_1 : decode cX9_isDebt 1 = .ok (.invokevirtual 131, 3) := by decide +kernel
theorem dX9_isDebt_4 : decode cX9_isDebt 4 = .ok (.iload_n 1, 1) := by decide +kernel
theorem dX9_isDebt_5 : decode cX9_isDebt 5 = .ok (.iconst 0, 1) := by decide +kernel
theorem dX9_isDebt_6 : decode cX9_isDebt 6 = .ok (.aload_n 0, 1) := by decide +kernel
theorem dX9_isDebt_7 : decode cX9_isDebt 7 = .ok (.getfield 108, 3) := by decide +kernel
theorem dX9_isDebt_10 : decode cX9_isDebt 10 = .ok (.iconst 1, 1) := by decide +kernel
theorem dX9_isDebt_11 : decode cX9_isDebt 11 = .ok (.isub, 1) := by decide +kernel
theorem dX9_isDebt_12 : decode cX9_isDebt 12 = .ok (.invokestatic 89, 3) := by decide +kernel
theorem dX9_isDebt_15 : decode cX9_isDebt 15 = .ok (.ireturn, 1) := by decide +kernel
def fX9_isDebt (a1 : Int32) (h : fd_H) : Option (Bool × fd_H) :=
(fX9_reads h).bind fun h2 =>
(fX9_in a1 (0 : Int32) ((h2.1 73 7) - (1 : Int32))).bind fun r4 =>
some (r4, h2)
set_option maxRecDepth 100000 in
set_option maxHeartbeats 4000000 in
theorem sX9_isDebt {g : fd_G} {hm : fd_H} {a1 : Int32} {r : Bool × fd_H} {h : fd_H} (hf : fX9_isDebt a1 h = some r) : fd_S g mX9_isDebt 6 [.ref (g.2.2.2 + 73), .int a1] fd_X0 (fd_mx hm h) (some (.int (fd_b r.1))) fd_X0 (fd_mx hm r.2) 0 0 := by
  refine fd_S.of (by decide +kernel) (Nat.le_of_ble_eq_true rfl) ?_
  unfold fX9_isDebt at hf
  refine fr_loc (lv' := [(0, .ref (g.2.2.2 + 73)), (1, .int a1)]) [0, 1] rfl ?_
  refine fr_aload_n (pc := 0) dX9_isDebt_0 0 rfl rfl ?_
  obtain ⟨h2, hc1, hf⟩ := fd_bi hf
  refine fr_callVv (pc := 1) (av := []) dX9_isDebt_1 yy_X9_reads kw_543 (by decide) rfl rfl rfl rfl (Nat.le_of_ble_eq_true rfl) ⟨Nat.le_of_ble_eq_true rfl, Nat.le_of_ble_eq_true rfl, Nat.zero_le _, Nat.zero_le _⟩ (sX9_reads hc1) ?_
  refine fr_iload_n (pc := 4) dX9_isDebt_4 1 rfl rfl ?_
  refine fr_iconst (pc := 5) (v := (0 : Int32)) dX9_isDebt_5 (by decide) ?_
  refine fr_aload_n (pc := 6) dX9_isDebt_6 0 rfl rfl ?_
  refine vm_getI (pc := 7) dX9_isDebt_7 fl_X9_108 (by decide) (by decide) rfl rfl ?_
  refine fr_iconst (pc := 10) (v := (1 : Int32)) dX9_isDebt_10 (by decide) ?_
  refine fr_isub (pc := 11) dX9_isDebt_11 ?_
  obtain ⟨r4, hc3, hf⟩ := fd_bi hf
  refine fr_callSz (pc := 12) (av := [.int a1, .int (0 : Int32), .int ((h2.1 73 7) - (1 : Int32))]) dX9_isDebt_12 yy_X9_in kw_148 rfl rfl (Nat.le_of_ble_eq_true rfl) ⟨Nat.le_of_ble_eq_true rfl, Nat.le_of_ble_eq_true rfl, Nat.zero_le _, Nat.zero_le _⟩ (sX9_in hc3) ?_
  exact vm_zretW (x := r4) (pc := 15) dX9_isDebt_15 rfl hf
theorem dX9_asTold_0 : decode cX9_asTold 0 = .ok (.aload_n 0, 1) := by decide +kernel
theorem dX9_asTold_1 : decode cX9_asTold 1 = .ok (.invokevirtual 131, 3) := by decide +kernel
theorem dX9_asTold_4 : decode cX9_asTold 4 = .ok (.aload_n 0, 1) := by decide +kernel
theorem dX9_asTold_5 : decode cX9_asTold 5 = .ok (.iconst (-1), 1) := by decide +kernel
theorem dX9_asTold_6 : decode cX9_asTold 6 = .ok (.putfield 156, 3) := by decide +kernel
theorem dX9_asTold_9 : decode cX9_asTold 9 = .ok (.iconst 0, 1) := by decide +kernel
theorem dX9_asTold_10 : decode cX9_asTold 10 = .ok (.istore_n 1, 1) := by decide +kernel
theorem dX9_asTold_11 : decode cX9_asTold 11 = .ok (.iload_n 1, 1) := by decide +kernel
theorem dX9_asTold_12 : decode cX9_asTold 12 = .ok (.bipush 40, 2) := by decide +kernel
theorem dX9_asTold_14 : decode cX9_asTold 14 = .ok (.if_icmp .ge 16, 3) := by decide +kernel
theorem dX9_asTold_17 : decode cX9_asTold 17 = .ok (.aload_n 0, 1) := by decide +kernel
theorem dX9_asTold_18 : decode cX9_asTold 18 = .ok (.getfield 49, 3) := by decide +kernel
theorem dX9_asTold_21 : decode cX9_asTold 21 = .ok (.iload_n 1, 1) := by decide +kernel
theorem dX9_asTold_22 : decode cX9_asTold 22 = .ok (.iconst 0, 1) := by decide +kernel
theorem dX9_asTold_23 : decode cX9_asTold 23 = .ok (.bastore, 1) := by decide +kernel
theorem dX9_asTold_24 : decode cX9_asTold 24 = .ok (.iinc 1 1, 3) := by decide +kernel
theorem dX9_asTold_27 : decode cX9_asTold 27 = .ok (.goto (-16), 3) := by decide +kernel
theorem dX9_asTold_30 : decode cX9_asTold 30 = .ok (.iconst 0, 1) := by decide +kernel
theorem dX9_asTold_31 : decode cX9_asTold 31 = .ok (.istore_n 1, 1) := by decide +kernel
theorem dX9_asTold_32 : decode cX9_asTold 32 = .ok (.iload_n 1, 1) := by decide +kernel
theorem dX9_asTold_33 : decode cX9_asTold 33 = .ok (.aload_n 0, 1) := by decide +kernel
theorem dX9_asTold_34 : decode cX9_asTold 34 = .ok (.getfield 40, 3) := by decide +kernel
theorem dX9_asTold_37 : decode cX9_asTold 37 = .ok (.iconst 0, 1) := by decide +kernel
theorem dX9_asTold_38 : decode cX9_asTold 38 = .ok (.iaload, 1) := by decide +kernel
theorem dX9_asTold_39 : decode cX9_asTold 39 = .ok (.if_icmp .ge 21, 3) := by decide +kernel
theorem dX9_asTold_42 : decode cX9_asTold 42 = .ok (.aload_n 0, 1) := by decide +kernel
theorem dX9_asTold_43 : decode cX9_asTold 43 = .ok (.getfield 49, 3) := by decide +kernel
theorem dX9_asTold_46 : decode cX9_asTold 46 = .ok (.aload_n 0, 1) := by decide +kernel
theorem dX9_asTold_47 : decode cX9_asTold 47 = .ok (.getfield 43, 3) := by decide +kernel
theorem dX9_asTold_50 : decode cX9_asTold 50 = .ok (.iload_n 1, 1) := by decide +kernel
theorem dX9_asTold_51 : decode cX9_asTold 51 = .ok (.iaload, 1) := by decide +kernel
theorem dX9_asTold_52 : decode cX9_asTold 52 = .ok (.iconst 1, 1) := by decide +kernel
theorem dX9_asTold_53 : decode cX9_asTold 53 = .ok (.bastore, 1) := by decide +kernel
theorem dX9_asTold_54 : decode cX9_asTold 54 = .ok (.iinc 1 1, 3) := by decide +kernel
theorem dX9_asTold_57 : decode cX9_asTold 57 = .ok (.goto (-25), 3) := by decide +kernel
theorem dX9_asTold_60 : decode cX9_asTold 60 = .ok (.return_, 1) := by decide +kernel
def fX9_asTold_L32  : Nat → Int32 → fd_H → Option (fd_H)
  | 0 => fun _ _ => none
  | n + 1 => fun v1 h =>
fd_g (fd_in (0 : Int32) 3) (
if (h.1 84 (0 : Int32).toNatClampNeg) ≤ v1 then (
some h)
else (
fd_g (fd_in v1 24) (
fd_g (fd_in (h.1 85 v1.toNatClampNeg) 40) (
fd_lt (fd_ui h 87 (h.1 85 v1.toNatClampNeg).toNatClampNeg (fd_b true)) fun h5 =>
fX9_asTold_L32  n (v1 + (1 : Int32)) h5))))
set_option maxRecDepth 100000 in
set_option maxHeartbeats 4000000 in
theorem sX9_asTold_L32 {g : fd_G} {hm : fd_H} {r : fd_H} : ∀ (n : Nat) (v1 : Int32) (h : fd_H), fX9_asTold_L32  n v1 h = some r → fd_A g mX9_asTold fd_E (fd_rm 6 0 0) (fd_Q g none fd_X0 (fd_mx hm r) 0 0) 32 [(0, .ref (g.2.2.2 + 73)), (1, .int v1)] [] fd_X0 (fd_mx hm h) 0 0 := by
  intro n
  induction n with
  | zero =>
    intro _ _ hf
    cases hf
  | succ n ih =>
    intro v1 h hf
    rw [fX9_asTold_L32] at hf
    refine fr_iload_n (pc := 32) dX9_asTold_32 1 rfl rfl ?_
    refine fr_aload_n (pc := 33) dX9_asTold_33 0 rfl rfl ?_
    refine fr_getR (pc := 34) dX9_asTold_34 fl_X9_40 (by decide) rfl rfl ?_
    refine fr_iconst (pc := 37) (v := (0 : Int32)) dX9_asTold_37 (by decide) ?_
    obtain ⟨g1, hf⟩ := fd_g_e hf
    refine vm_iald (pc := 38) dX9_asTold_38 (by decide) (by decide) rfl g1 ?_
    refine fr_icmp_ge (pc := 39) 60 dX9_asTold_39 (by decide) (fun c2 => ?_) (fun c2 => ?_)
    · have hf := fd_t c2 hf
      exact vm_vretW (pc := 60) dX9_asTold_60 rfl hf
    · have hf := fd_f c2 hf
      refine fr_aload_n (pc := 42) dX9_asTold_42 0 rfl rfl ?_
      refine fr_getR (pc := 43) dX9_asTold_43 fl_X9_49 (by decide) rfl rfl ?_
      refine fr_aload_n (pc := 46) dX9_asTold_46 0 rfl rfl ?_
      refine fr_getR (pc := 47) dX9_asTold_47 fl_X9_43 (by decide) rfl rfl ?_
      refine fr_iload_n (pc := 50) dX9_asTold_50 1 rfl rfl ?_
      obtain ⟨g3, hf⟩ := fd_g_e hf
      refine vm_iald (pc := 51) dX9_asTold_51 (by decide) (by decide) rfl g3 ?_
      refine fr_iconst (pc := 52) (v := (1 : Int32)) dX9_asTold_52 (by decide) ?_
      obtain ⟨g4, hf⟩ := fd_g_e hf
      obtain ⟨h5, eh5, hf⟩ := fd_lt_e hf
      refine vm_zast (x := true) (pc := 53) dX9_asTold_53 (by decide) (by decide) rfl g4 eh5 ?_
      refine fr_iinc (pc := 54) (v := (v1 + (1 : Int32))) (lv' := [(1, .int (v1 + (1 : Int32))), (0, .ref (g.2.2.2 + 73))]) dX9_asTold_54 1 rfl rfl (by decide) rfl ?_
      refine fr_goto (pc := 57) 32 dX9_asTold_57 (by decide) ?_
      refine fr_loc (lv' := [(0, .ref (g.2.2.2 + 73)), (1, .int (v1 + (1 : Int32)))]) [1, 0] rfl ?_
      exact ih _ _ hf
def fX9_asTold_L11  : Nat → Int32 → fd_H → Option (fd_H)
  | 0 => fun _ _ => none
  | n + 1 => fun v1 h =>
if (40 : Int32) ≤ v1 then (
fX9_asTold_L32  fd_fu (0 : Int32) h)
else (
fd_g (fd_in v1 40) (
fd_lt (fd_ui h 87 v1.toNatClampNeg (fd_b false)) fun h3 =>
fX9_asTold_L11  n (v1 + (1 : Int32)) h3))
set_option maxRecDepth 100000 in
set_option maxHeartbeats 4000000 in
theorem sX9_asTold_L11 {g : fd_G} {hm : fd_H} {r : fd_H} : ∀ (n : Nat) (v1 : Int32) (h : fd_H), fX9_asTold_L11  n v1 h = some r → fd_A g mX9_asTold fd_E (fd_rm 6 0 0) (fd_Q g none fd_X0 (fd_mx hm r) 0 0) 11 [(0, .ref (g.2.2.2 + 73)), (1, .int v1)] [] fd_X0 (fd_mx hm h) 0 0 := by
  intro n
  induction n with
  | zero =>
    intro _ _ hf
    cases hf
  | succ n ih =>
    intro v1 h hf
    rw [fX9_asTold_L11] at hf
    refine fr_iload_n (pc := 11) dX9_asTold_11 1 rfl rfl ?_
    refine fr_bipush (pc := 12) (v := (40 : Int32)) dX9_asTold_12 (by decide) ?_
    refine fr_icmp_ge (pc := 14) 30 dX9_asTold_14 (by decide) (fun c1 => ?_) (fun c1 => ?_)
    · have hf := fd_t c1 hf
      refine fr_iconst (pc := 30) (v := (0 : Int32)) dX9_asTold_30 (by decide) ?_
      refine fr_istore_n (pc := 31) (lv' := [(1, .int (0 : Int32)), (0, .ref (g.2.2.2 + 73))]) dX9_asTold_31 rfl (by decide) rfl ?_
      refine fr_loc (lv' := [(0, .ref (g.2.2.2 + 73)), (1, .int (0 : Int32))]) [1, 0] rfl ?_
      exact sX9_asTold_L32 _  _ _ hf
    · have hf := fd_f c1 hf
      refine fr_aload_n (pc := 17) dX9_asTold_17 0 rfl rfl ?_
      refine fr_getR (pc := 18) dX9_asTold_18 fl_X9_49 (by decide) rfl rfl ?_
      refine fr_iload_n (pc := 21) dX9_asTold_21 1 rfl rfl ?_
      refine fr_iconst (pc := 22) (v := (0 : Int32)) dX9_asTold_22 (by decide) ?_
      obtain ⟨g2, hf⟩ := fd_g_e hf
      obtain ⟨h3, eh3, hf⟩ := fd_lt_e hf
      refine vm_zast (x := false) (pc := 23) dX9_asTold_23 (by decide) (by decide) rfl g2 eh3 ?_
      refine fr_iinc (pc := 24) (v := (v1 + (1 : Int32))) (lv' := [(1, .int (v1 + (1 : Int32))), (0, .ref (g.2.2.2 + 73))]) dX9_asTold_24 1 rfl rfl (by decide) rfl ?_
      refine fr_goto (pc := 27) 11 dX9_asTold_27 (by decide) ?_
      refine fr_loc (lv' := [(0, .ref (g.2.2.2 + 73)), (1, .int (v1 + (1 : Int32)))]) [1, 0] rfl ?_
      exact ih _ _ hf
def fX9_asTold  (h : fd_H) : Option (fd_H) :=
(fX9_reads h).bind fun h2 =>
fd_lt (fd_ui h2 73 18 (-1 : Int32)) fun h3 =>
fX9_asTold_L11  fd_fu (0 : Int32) h3
set_option maxRecDepth 100000 in
set_option maxHeartbeats 4000000 in
theorem sX9_asTold {g : fd_G} {hm : fd_H} {r : fd_H} {h : fd_H} (hf : fX9_asTold  h = some r) : fd_S g mX9_asTold 6 [.ref (g.2.2.2 + 73)] fd_X0 (fd_mx hm h) none fd_X0 (fd_mx hm r) 0 0 := by
  refine fd_S.of (by decide +kernel) (Nat.le_of_ble_eq_true rfl) ?_
  unfold fX9_asTold at hf
  refine fr_loc (lv' := [(0, .ref (g.2.2.2 + 73))]) [0] rfl ?_
  refine fr_aload_n (pc := 0) dX9_asTold_0 0 rfl rfl ?_
  obtain ⟨h2, hc1, hf⟩ := fd_bi hf
  refine fr_callVv (pc := 1) (av := []) dX9_asTold_1 yy_X9_reads kw_543 (by decide) rfl rfl rfl rfl (Nat.le_of_ble_eq_true rfl) ⟨Nat.le_of_ble_eq_true rfl, Nat.le_of_ble_eq_true rfl, Nat.zero_le _, Nat.zero_le _⟩ (sX9_reads hc1) ?_
  refine fr_aload_n (pc := 4) dX9_asTold_4 0 rfl rfl ?_
  refine fr_iconst (pc := 5) (v := (-1 : Int32)) dX9_asTold_5 (by decide) ?_
  obtain ⟨h3, eh3, hf⟩ := fd_lt_e hf
  refine vm_putI (pc := 6) dX9_asTold_6 fl_X9_156 ft_X9_18 (by decide) (by decide) rfl rfl eh3 ?_
  refine fr_iconst (pc := 9) (v := (0 : Int32)) dX9_asTold_9 (by decide) ?_
  refine fr_istore_n (pc := 10) (lv' := [(1, .int (0 : Int32)), (0, .ref (g.2.2.2 + 73))]) dX9_asTold_10 rfl (by decide) rfl ?_
  refine fr_loc (lv' := [(0, .ref (g.2.2.2 + 73)), (1, .int (0 : Int32))]) [1, 0] rfl ?_
  exact sX9_asTold_L11 _  _ _ hf
theorem dX9_warmthOf_0 : decode cX9_warmthOf 0 = .ok (.aload_n 0, 1) := by decide +kernel
theorem dX9_warmthOf_1 : decode cX9_warmthOf 1 = .ok (.invokevirtual 131, 3) := by decide +kernel
theorem dX9_warmthOf_4 : decode cX9_warmthOf 4 = .ok (.aload_n 0, 1) := by decide +kernel
theorem dX9_warmthOf_5 : decode cX9_warmthOf 5 = .ok (.iload_n 1, 1) := by decide +kernel
theorem dX9_warmthOf_6 : decode cX9_warmthOf 6 = .ok (.iload_n 2, 1) := by decide +kernel
theorem dX9_warmthOf_7 : decode cX9_warmthOf 7 = .ok (.invokevirtual 159, 3) := by decide +kernel
theorem dX9_warmthOf_10 : decode cX9_warmthOf 10 = .ok (.ireturn, 1) := by decide +kernel
def fX9_warmthOf (a1 : Int32) (a2 : Int32) (h : fd_H) : Option (Int32 × fd_H) :=
(fX9_reads h).bind fun h2 =>
(fX9_warmthBy a1 a2 h2).bind fun r4 =>
some (r4, h2)
set_option maxRecDepth 100000 in
set_option maxHeartbeats 4000000 in
theorem sX9_warmthOf {g : fd_G} {hm : fd_H} {a1 : Int32} {a2 : Int32} {r : Int32 × fd_H} {h : fd_H} (hf : fX9_warmthOf a1 a2 h = some r) : fd_S g mX9_warmthOf 6 [.ref (g.2.2.2 + 73), .int a1, .int a2] fd_X0 (fd_mx hm h) (some (.int r.1)) fd_X0 (fd_mx hm r.2) 0 0 := by
  refine fd_S.of (by decide +kernel) (Nat.le_of_ble_eq_true rfl) ?_
  unfold fX9_warmthOf at hf
  refine fr_loc (lv' := [(0, .ref (g.2.2.2 + 73)), (1, .int a1), (2, .int a2)]) [0, 1, 2] rfl ?_
  refine fr_aload_n (pc := 0) dX9_warmthOf_0 0 rfl rfl ?_
  obtain ⟨h2, hc1, hf⟩ := fd_bi hf
  refine fr_callVv (pc := 1) (av := []) dX9_warmthOf_1 yy_X9_reads kw_543 (by decide) rfl rfl rfl rfl (Nat.le_of_ble_eq_true rfl) ⟨Nat.le_of_ble_eq_true rfl, Nat.le_of_ble_eq_true rfl, Nat.zero_le _, Nat.zero_le _⟩ (sX9_reads hc1) ?_
  refine fr_aload_n (pc := 4) dX9_warmthOf_4 0 rfl rfl ?_
  refine fr_iload_n (pc := 5) dX9_warmthOf_5 1 rfl rfl ?_
  refine fr_iload_n (pc := 6) dX9_warmthOf_6 2 rfl rfl ?_
  obtain ⟨r4, hc3, hf⟩ := fd_bi hf
  refine fr_callVi (pc := 7) (av := [.int a1, .int a2]) dX9_warmthOf_7 yy_X9_warmthBy kw_158 (by decide) rfl rfl rfl rfl (Nat.le_of_ble_eq_true rfl) ⟨Nat.le_of_ble_eq_true rfl, Nat.le_of_ble_eq_true rfl, Nat.zero_le _, Nat.zero_le _⟩ (sX9_warmthBy hc3) ?_
  exact vm_iretW (x := r4) (pc := 10) dX9_warmthOf_10 rfl hf
theorem dX9_partsMany_0 : decode cX9_partsMany 0 = .ok (.aload_n 0, 1) := by decide +kernel
theorem dX9_partsMany_1 : decode cX9_partsMany 1 = .ok (.invokevirtual 131, 3) := by decide +kernel
theorem dX9_partsMany_4 : decode cX9_partsMany 4 = .ok (.iload_n 1, 1) := by decide +kernel
theorem dX9_partsMany_5 : decode cX9_partsMany 5 = .ok (.ifCond .ne 10, 3) := by decide +kernel
theorem dX9_partsMany_8 : decode cX9_partsMany 8 = .ok (.aload_n 0, 1) := by decide +kernel
theorem dX9_partsMany_9 : decode cX9_partsMany 9 = .ok (.getfield 105, 3) := by decide +kernel
theorem dX9_partsMany_12 : decode cX9_partsMany 12 = .ok (.goto 19, 3) := by decide +kernel
theorem dX9_partsMany_15 : decode cX9_partsMany 15 = .ok (.iload_n 1, 1) := by decide +kernel
theorem dX9_partsMany_16 : decode cX9_partsMany 16 = .ok (.iconst 1, 1) := by decide +kernel
theorem dX9_partsMany_17 : decode cX9_partsMany 17 = .ok (.if_icmp .ne 10, 3) := by decide +kernel
theorem dX9_partsMany_20 : decode cX9_partsMany 20 = .ok (.aload_n 0, 1) := by decide +kernel
theorem dX9_partsMany_21 : decode cX9_partsMany 21 = .ok (.getfield 117, 3) := by decide +kernel
theorem dX9_partsMany_24 : decode cX9_partsMany 24 = .ok (.goto 7, 3) := by decide +kernel
theorem dX9_partsMany_27 : decode cX9_partsMany 27 = .ok (.aload_n 0, 1) := by decide +kernel
theorem dX9_partsMany_28 : decode cX9_partsMany 28 = .ok (.getfield 108, 3) := by decide +kernel
theorem dX9_partsMany_31 : decode cX9_partsMany 31 = .ok (.ireturn, 1) := by decide +kernel
def fX9_partsMany (a1 : Int32) (h : fd_H) : Option (Int32 × fd_H) :=
(fX9_reads h).bind fun h2 =>
if a1 = 0 then (
some ((h2.1 73 2), h2))
else (
if a1 = (1 : Int32) then (
some ((h2.1 73 5), h2))
else (
some ((h2.1 73 7), h2)))
set_option maxRecDepth 100000 in
set_option maxHeartbeats 4000000 in
theorem sX9_partsMany {g : fd_G} {hm : fd_H} {a1 : Int32} {r : Int32 × fd_H} {h : fd_H} (hf : fX9_partsMany a1 h = some r) : fd_S g mX9_partsMany 6 [.ref (g.2.2.2 + 73), .int a1] fd_X0 (fd_mx hm h) (some (.int r.1)) fd_X0 (fd_mx hm r.2) 0 0 := by
  refine fd_S.of (by decide +kernel) (Nat.le_of_ble_eq_true rfl) ?_
  unfold fX9_partsMany at hf
  refine fr_loc (lv' := [(0, .ref (g.2.2.2 + 73)), (1, .int a1)]) [0, 1] rfl ?_
  refine fr_aload_n (pc := 0) dX9_partsMany_0 0 rfl rfl ?_
  obtain ⟨h2, hc1, hf⟩ := fd_bi hf
  refine fr_callVv (pc := 1) (av := []) dX9_partsMany_1 yy_X9_reads kw_543 (by decide) rfl rfl rfl rfl (Nat.le_of_ble_eq_true rfl) ⟨Nat.le_of_ble_eq_true rfl, Nat.le_of_ble_eq_true rfl, Nat.zero_le _, Nat.zero_le _⟩ (sX9_reads hc1) ?_
  refine fr_iload_n (pc := 4) dX9_partsMany_4 1 rfl rfl ?_
  refine fr_if_ne (pc := 5) 15 dX9_partsMany_5 (by decide) (fun c3 => ?_) (fun c3 => ?_)
  · have hf := fd_f c3 hf
    refine fr_iload_n (pc := 15) dX9_partsMany_15 1 rfl rfl ?_
    refine fr_iconst (pc := 16) (v := (1 : Int32)) dX9_partsMany_16 (by decide) ?_
    refine fr_icmp_ne (pc := 17) 27 dX9_partsMany_17 (by decide) (fun c4 => ?_) (fun c4 => ?_)
    · have hf := fd_f c4 hf
      refine fr_aload_n (pc := 27) dX9_partsMany_27 0 rfl rfl ?_
      refine vm_getI (pc := 28) dX9_partsMany_28 fl_X9_108 (by decide) (by decide) rfl rfl ?_
      exact vm_iretW (x := (h2.1 73 7)) (pc := 31) dX9_partsMany_31 rfl hf
    · have hf := fd_t c4 hf
      refine fr_aload_n (pc := 20) dX9_partsMany_20 0 rfl rfl ?_
      refine vm_getI (pc := 21) dX9_partsMany_21 fl_X9_117 (by decide) (by decide) rfl rfl ?_
      refine fr_goto (pc := 24) 31 dX9_partsMany_24 (by decide) ?_
      exact vm_iretW (x := (h2.1 73 5)) (pc := 31) dX9_partsMany_31 rfl hf
  · have hf := fd_t c3 hf
    refine fr_aload_n (pc := 8) dX9_partsMany_8 0 rfl rfl ?_
    refine vm_getI (pc := 9) dX9_partsMany_9 fl_X9_105 (by decide) (by decide) rfl rfl ?_
    refine fr_goto (pc := 12) 31 dX9_partsMany_12 (by decide) ?_
    exact vm_iretW (x := (h2.1 73 2)) (pc := 31) dX9_partsMany_31 rfl hf
theorem dX9_place_0 : decode cX9_place 0 = .ok (.aload_n 0, 1) := by decide +kernel
theorem dX9_place_1 : decode cX9_place 1 = .ok (.iload_n 1, 1) := by decide +kernel
theorem dX9_place_2 : decode cX9_place 2 = .ok (.invokevirtual 134, 3) := by decide +kernel
theorem dX9_place_5 : decode cX9_place 5 = .ok (.ifCond .eq 34, 3) := by decide +kernel
theorem dX9_place_8 : decode cX9_place 8 = .ok (.iload_n 2, 1) := by decide +kernel
theorem dX9_place_9 : decode cX9_place 9 = .ok (.iconst 0, 1) := by decide +kernel
theorem dX9_place_10 : decode cX9_place 10 = .ok (.iconst 1, 1) := by decide +kernel
theorem dX9_place_11 : decode cX9_place 11 = .ok (.invokestatic 89, 3) := by decide +kernel
theorem dX9_place_14 : decode cX9_place 14 = .ok (.ifCond .eq 25, 3) := by decide +kernel
theorem dX9_place_17 : decode cX9_place 17 = .ok (.iload_n 2, 1) := by decide +kernel
theorem dX9_place_18 : decode cX9_place 18 = .ok (.ifCond .ne 12, 3) := by decide +kernel
theorem dX9_place_21 : decode cX9_place 21 = .ok (.aload_n 0, 1) := by decide +kernel
theorem dX9_place_22 : decode cX9_place 22 = .ok (.getfield 16, 3) := by decide +kernel
theorem dX9_place_25 : decode cX9_place 25 = .ok (.iload_n 1, 1) := by decide +kernel
theorem dX9_place_26 : decode cX9_place 26 = .ok (.iaload, 1) := by decide +kernel
theorem dX9_place_27 : decode cX9_place 27 = .ok (.goto 14, 3) := by decide +kernel
theorem dX9_place_30 : decode cX9_place 30 = .ok (.aload_n 0, 1) := by decide +kernel
theorem dX9_place_31 : decode cX9_place 31 = .ok (.getfield 19, 3) := by decide +kernel
theorem dX9_place_34 : decode cX9_place 34 = .ok (.iload_n 1, 1) := by decide +kernel
theorem dX9_place_35 : decode cX9_place 35 = .ok (.iaload, 1) := by decide +kernel
theorem dX9_place_36 : decode cX9_place 36 = .ok (.goto 5, 3) := by decide +kernel
theorem dX9_place_39 : decode cX9_place 39 = .ok (.bipush (-2), 2) := by decide +kernel
theorem dX9_place_41 : decode cX9_place 41 = .ok (.ireturn, 1) := by decide +kernel
def fX9_place (a1 : Int32) (a2 : Int32) (h : fd_H) : Option (Int32 × fd_H) :=
(fX9_isPlace a1 h).bind fun q2 =>
if q2.1 = true then (
(fX9_in a2 (0 : Int32) (1 : Int32)).bind fun r5 =>
if r5 = true then (
if a2 = 0 then (
fd_g (fd_in a1 9) (
some ((q2.2.1 76 a1.toNatClampNeg), q2.2)))
else (
fd_g (fd_in a1 9) (
some ((q2.2.1 77 a1.toNatClampNeg), q2.2))))
else (
some ((-2 : Int32), q2.2)))
else (
some ((-2 : Int32), q2.2))
set_option maxRecDepth 100000 in
set_option maxHeartbeats 4000000 in
theorem sX9_place {g : fd_G} {hm : fd_H} {a1 : Int32} {a2 : Int32} {r : Int32 × fd_H} {h : fd_H} (hf : fX9_place a1 a2 h = some r) : fd_S g mX9_place 7 [.ref (g.2.2.2 + 73), .int a1, .int a2] fd_X0 (fd_mx hm h) (some (.int r.1)) fd_X0 (fd_mx hm r.2) 0 0 := by
  refine fd_S.of (by decide +kernel) (Nat.le_of_ble_eq_true rfl) ?_
  unfold fX9_place at hf
  refine fr_loc (lv' := [(0, .ref (g.2.2.2 + 73)), (1, .int a1), (2, .int a2)]) [0, 1, 2] rfl ?_
  refine fr_aload_n (pc := 0) dX9_place_0 0 rfl rfl ?_
  refine fr_iload_n (pc := 1) dX9_place_1 1 rfl rfl ?_
  obtain ⟨q2, hc1, hf⟩ := fd_bi hf
  refine fr_callVz (pc := 2) (av := [.int a1]) dX9_place_2 yy_X9_isPlace kw_547 (by decide) rfl rfl rfl rfl (Nat.le_of_ble_eq_true rfl) ⟨Nat.le_of_ble_eq_true rfl, Nat.le_of_ble_eq_true rfl, Nat.zero_le _, Nat.zero_le _⟩ (sX9_isPlace hc1) ?_
  refine fr_bz (pc := 5) 39 dX9_place_5 (by decide) (fun c3 => ?_) (fun c3 => ?_)
  · have hf := fd_f c3 hf
    refine fr_bipush (pc := 39) (v := (-2 : Int32)) dX9_place_39 (by decide) ?_
    exact vm_iretW (x := (-2 : Int32)) (pc := 41) dX9_place_41 rfl hf
  · have hf := fd_t c3 hf
    refine fr_iload_n (pc := 8) dX9_place_8 2 rfl rfl ?_
    refine fr_iconst (pc := 9) (v := (0 : Int32)) dX9_place_9 (by decide) ?_
    refine fr_iconst (pc := 10) (v := (1 : Int32)) dX9_place_10 (by decide) ?_
    obtain ⟨r5, hc4, hf⟩ := fd_bi hf
    refine fr_callSz (pc := 11) (av := [.int a2, .int (0 : Int32), .int (1 : Int32)]) dX9_place_11 yy_X9_in kw_148 rfl rfl (Nat.le_of_ble_eq_true rfl) ⟨Nat.le_of_ble_eq_true rfl, Nat.le_of_ble_eq_true rfl, Nat.zero_le _, Nat.zero_le _⟩ (sX9_in hc4) ?_
    refine fr_bz (pc := 14) 39 dX9_place_14 (by decide) (fun c6 => ?_) (fun c6 => ?_)
    · have hf := fd_f c6 hf
      refine fr_bipush (pc := 39) (v := (-2 : Int32)) dX9_place_39 (by decide) ?_
      exact vm_iretW (x := (-2 : Int32)) (pc := 41) dX9_place_41 rfl hf
    · have hf := fd_t c6 hf
      refine fr_iload_n (pc := 17) dX9_place_17 2 rfl rfl ?_
      refine fr_if_ne (pc := 18) 30 dX9_place_18 (by decide) (fun c7 => ?_) (fun c7 => ?_)
      · have hf := fd_f c7 hf
        refine fr_aload_n (pc := 30) dX9_place_30 0 rfl rfl ?_
        refine fr_getR (pc := 31) dX9_place_31 fl_X9_19 (by decide) rfl rfl ?_
        refine fr_iload_n (pc := 34) dX9_place_34 1 rfl rfl ?_
        obtain ⟨g8, hf⟩ := fd_g_e hf
        refine vm_iald (pc := 35) dX9_place_35 (by decide) (by decide) rfl g8 ?_
        refine fr_goto (pc := 36) 41 dX9_place_36 (by decide) ?_
        exact vm_iretW (x := (q2.2.1 77 a1.toNatClampNeg)) (pc := 41) dX9_place_41 rfl hf
      · have hf := fd_t c7 hf
        refine fr_aload_n (pc := 21) dX9_place_21 0 rfl rfl ?_
        refine fr_getR (pc := 22) dX9_place_22 fl_X9_16 (by decide) rfl rfl ?_
        refine fr_iload_n (pc := 25) dX9_place_25 1 rfl rfl ?_
        obtain ⟨g9, hf⟩ := fd_g_e hf
        refine vm_iald (pc := 26) dX9_place_26 (by decide) (by decide) rfl g9 ?_
        refine fr_goto (pc := 27) 41 dX9_place_27 (by decide) ?_
        exact vm_iretW (x := (q2.2.1 76 a1.toNatClampNeg)) (pc := 41) dX9_place_41 rfl hf
theorem dX9_warm_0 : decode cX9_warm 0 = .ok (.aload_n 0, 1) := by decide +kernel
theorem dX9_warm_1 : decode cX9_warm 1 = .ok (.iload_n 1, 1) := by decide +kernel
theorem dX9_warm_2 : decode cX9_warm 2 = .ok (.invokevirtual 137, 3) := by decide +kernel
theorem dX9_warm_5 : decode cX9_warm 5 = .ok (.ifCond .eq 12, 3) := by decide +kernel
theorem dX9_warm_8 : decode cX9_warm 8 = .ok (.aload_n 0, 1) := by decide +kernel
theorem dX9_warm_9 : decode cX9_warm 9 = .ok (.getfield 22, 3) := by decide +kernel
theorem dX9_warm_12 : decode cX9_warm 12 = .ok (.iload_n 1, 1) := by decide +kernel
theorem dX9_warm_13 : decode cX9_warm 13 = .ok (.iaload, 1) := by decide +kernel
theorem dX9_warm_14 : decode cX9_warm 14 = .ok (.goto 5, 3) := by decide +kernel
theorem dX9_warm_17 : decode cX9_warm 17 = .ok (.bipush (-2), 2) := by decide +kernel
theorem dX9_warm_19 : decode cX9_warm 19 = .ok (.ireturn, 1) := by decide +kernel
def fX9_warm (a1 : Int32) (h : fd_H) : Option (Int32 × fd_H) :=
(fX9_isNight a1 h).bind fun q2 =>
if q2.1 = true then (
fd_g (fd_in a1 41) (
some ((q2.2.1 78 a1.toNatClampNeg), q2.2)))
else (
some ((-2 : Int32), q2.2))
set_option maxRecDepth 100000 in
set_option maxHeartbeats 4000000 in
theorem sX9_warm {g : fd_G} {hm : fd_H} {a1 : Int32} {r : Int32 × fd_H} {h : fd_H} (hf : fX9_warm a1 h = some r) : fd_S g mX9_warm 7 [.ref (g.2.2.2 + 73), .int a1] fd_X0 (fd_mx hm h) (some (.int r.1)) fd_X0 (fd_mx hm r.2) 0 0 := by
  refine fd_S.of (by decide +kernel) (Nat.le_of_ble_eq_true rfl) ?_
  unfold fX9_warm at hf
  refine fr_loc (lv' := [(0, .ref (g.2.2.2 + 73)), (1, .int a1)]) [0, 1] rfl ?_
  refine fr_aload_n (pc := 0) dX9_warm_0 0 rfl rfl ?_
  refine fr_iload_n (pc := 1) dX9_warm_1 1 rfl rfl ?_
  obtain ⟨q2, hc1, hf⟩ := fd_bi hf
  refine fr_callVz (pc := 2) (av := [.int a1]) dX9_warm_2 yy_X9_isNight kw_551 (by decide) rfl rfl rfl rfl (Nat.le_of_ble_eq_true rfl) ⟨Nat.le_of_ble_eq_true rfl, Nat.le_of_ble_eq_true rfl, Nat.zero_le _, Nat.zero_le _⟩ (sX9_isNight hc1) ?_
  refine fr_bz (pc := 5) 17 dX9_warm_5 (by decide) (fun c3 => ?_) (fun c3 => ?_)
  · have hf := fd_f c3 hf
    refine fr_bipush (pc := 17) (v := (-2 : Int32)) dX9_warm_17 (by decide) ?_
    exact vm_iretW (x := (-2 : Int32)) (pc := 19) dX9_warm_19 rfl hf
  · have hf := fd_t c3 hf
    refine fr_aload_n (pc := 8) dX9_warm_8 0 rfl rfl ?_
    refine fr_getR (pc := 9) dX9_warm_9 fl_X9_22 (by decide) rfl rfl ?_
    refine fr_iload_n (pc := 12) dX9_warm_12 1 rfl rfl ?_
    obtain ⟨g4, hf⟩ := fd_g_e hf
    refine vm_iald (pc := 13) dX9_warm_13 (by decide) (by decide) rfl g4 ?_
    refine fr_goto (pc := 14) 19 dX9_warm_14 (by decide) ?_
    exact vm_iretW (x := (q2.2.1 78 a1.toNatClampNeg)) (pc := 19) dX9_warm_19 rfl hf
theorem dX9_debt_0 : decode cX9_debt 0 = .ok (.aload_n 0, 1) := by decide +kernel
theorem dX9_debt_1 : decode cX9_debt 1 = .ok (.iload_n 1, 1) := by decide +kernel
theorem dX9_debt_2 : decode cX9_debt 2 = .ok (.invokevirtual 140, 3) := by decide +kernel
theorem dX9_debt_5 : decode cX9_debt 5 = .ok (.ifCond .eq 21, 3) := by decide +kernel
theorem dX9_debt_8 : decode cX9_debt 8 = .ok (.iload_n 2, 1) := by decide +kernel
theorem dX9_debt_9 : decode cX9_debt 9 = .ok (.iconst 0, 1) := by decide +kernel
theorem dX9_debt_10 : decode cX9_debt 10 = .ok (.iconst 4, 1) := by decide +kernel
theorem dX9_debt_11 : decode cX9_debt 11 = .ok (.invokestatic 89, 3) := by decide +kernel
theorem dX9_debt_14 : decode cX9_debt 14 = .ok (.ifCond .eq 12, 3) := by decide +kernel
theorem dX9_debt_17 : decode cX9_debt 17 = .ok (.aload_n 0, 1) := by decide +kernel
theorem dX9_debt_18 : decode cX9_debt 18 = .ok (.iload_n 1, 1) := by decide +kernel
theorem dX9_debt_19 : decode cX9_debt 19 = .ok (.iload_n 2, 1) := by decide +kernel
theorem dX9_debt_20 : decode cX9_debt 20 = .ok (.invokevirtual 143, 3) := by decide +kernel
theorem dX9_debt_23 : decode cX9_debt 23 = .ok (.goto 5, 3) := by decide +kernel
theorem dX9_debt_26 : decode cX9_debt 26 = .ok (.bipush (-2), 2) := by decide +kernel
theorem dX9_debt_28 : decode cX9_debt 28 = .ok (.ireturn, 1) := by decide +kernel
def fX9_debt (a1 : Int32) (a2 : Int32) (h : fd_H) : Option (Int32 × fd_H) :=
(fX9_isDebt a1 h).bind fun q2 =>
if q2.1 = true then (
(fX9_in a2 (0 : Int32) (4 : Int32)).bind fun r5 =>
if r5 = true then (
(fX9_debtOf a1 a2 q2.2).bind fun r8 =>
some (r8, q2.2))
else (
some ((-2 : Int32), q2.2)))
else (
some ((-2 : Int32), q2.2))
set_option maxRecDepth 100000 in
set_option maxHeartbeats 4000000 in
theorem sX9_debt {g : fd_G} {hm : fd_H} {a1 : Int32} {a2 : Int32} {r : Int32 × fd_H} {h : fd_H} (hf : fX9_debt a1 a2 h = some r) : fd_S g mX9_debt 7 [.ref (g.2.2.2 + 73), .int a1, .int a2] fd_X0 (fd_mx hm h) (some (.int r.1)) fd_X0 (fd_mx hm r.2) 0 0 := by
  refine fd_S.of (by decide +kernel) (Nat.le_of_ble_eq_true rfl) ?_
  unfold fX9_debt at hf
  refine fr_loc (lv' := [(0, .ref (g.2.2.2 + 73)), (1, .int a1), (2, .int a2)]) [0, 1, 2] rfl ?_
  refine fr_aload_n (pc := 0) dX9_debt_0 0 rfl rfl ?_
  refine fr_iload_n (pc := 1) dX9_debt_1 1 rfl rfl ?_
  obtain ⟨q2, hc1, hf⟩ := fd_bi hf
  refine fr_callVz (pc := 2) (av := [.int a1]) dX9_debt_2 yy_X9_isDebt kw_555 (by decide) rfl rfl rfl rfl (Nat.le_of_ble_eq_true rfl) ⟨Nat.le_of_ble_eq_true rfl, Nat.le_of_ble_eq_true rfl, Nat.zero_le _, Nat.zero_le _⟩ (sX9_isDebt hc1) ?_
  refine fr_bz (pc := 5) 26 dX9_debt_5 (by decide) (fun c3 => ?_) (fun c3 => ?_)
  · have hf := fd_f c3 hf
    refine fr_bipush (pc := 26) (v := (-2 : Int32)) dX9_debt_26 (by decide) ?_
    exact vm_iretW (x := (-2 : Int32)) (pc := 28) dX9_debt_28 rfl hf
  · have hf := fd_t c3 hf
    refine fr_iload_n (pc := 8) dX9_debt_8 2 rfl rfl ?_
    refine fr_iconst (pc := 9) (v := (0 : Int32)) dX9_debt_9 (by decide) ?_
    refine fr_iconst (pc := 10) (v := (4 : Int32)) dX9_debt_10 (by decide) ?_
    obtain ⟨r5, hc4, hf⟩ := fd_bi hf
    refine fr_callSz (pc := 11) (av := [.int a2, .int (0 : Int32), .int (4 : Int32)]) dX9_debt_11 yy_X9_in kw_148 rfl rfl (Nat.le_of_ble_eq_true rfl) ⟨Nat.le_of_ble_eq_true rfl, Nat.le_of_ble_eq_true rfl, Nat.zero_le _, Nat.zero_le _⟩ (sX9_in hc4) ?_
    refine fr_bz (pc := 14) 26 dX9_debt_14 (by decide) (fun c6 => ?_) (fun c6 => ?_)
    · have hf := fd_f c6 hf
      refine fr_bipush (pc := 26) (v := (-2 : Int32)) dX9_debt_26 (by decide) ?_
      exact vm_iretW (x := (-2 : Int32)) (pc := 28) dX9_debt_28 rfl hf
    · have hf := fd_t c6 hf
      refine fr_aload_n (pc := 17) dX9_debt_17 0 rfl rfl ?_
      refine fr_iload_n (pc := 18) dX9_debt_18 1 rfl rfl ?_
      refine fr_iload_n (pc := 19) dX9_debt_19 2 rfl rfl ?_
      obtain ⟨r8, hc7, hf⟩ := fd_bi hf
      refine fr_callVi (pc := 20) (av := [.int a1, .int a2]) dX9_debt_20 yy_X9_debtOf kw_559 (by decide) rfl rfl rfl rfl (Nat.le_of_ble_eq_true rfl) ⟨Nat.le_of_ble_eq_true rfl, Nat.le_of_ble_eq_true rfl, Nat.zero_le _, Nat.zero_le _⟩ (sX9_debtOf hc7) ?_
      refine fr_goto (pc := 23) 28 dX9_debt_23 (by decide) ?_
      exact vm_iretW (x := r8) (pc := 28) dX9_debt_28 rfl hf
theorem dX9_laysTold_0 : decode cX9_laysTold 0 = .ok (.aload_n 0, 1) := by decide +kernel
theorem dX9_laysTold_1 : decode cX9_laysTold 1 = .ok (.invokevirtual 168, 3) := by decide +kernel
theorem dX9_laysTold_4 : decode cX9_laysTold 4 = .ok (.aload_n 0, 1) := by decide +kernel
theorem dX9_laysTold_5 : decode cX9_laysTold 5 = .ok (.invokevirtual 171, 3) := by decide +kernel
theorem dX9_laysTold_8 : decode cX9_laysTold 8 = .ok (.return_, 1) := by decide +kernel
def fX9_laysTold  (h : fd_H) : Option (fd_H) :=
(fX9_asTold h).bind fun h2 =>
(fX9_lays h2).bind fun h4 =>
some h4
set_option maxRecDepth 100000 in
set_option maxHeartbeats 4000000 in
theorem sX9_laysTold {g : fd_G} {hm : fd_H} {r : fd_H} {h : fd_H} (hf : fX9_laysTold  h = some r) : fd_S g mX9_laysTold 7 [.ref (g.2.2.2 + 73)] fd_X0 (fd_mx hm h) none fd_X0 (fd_mx hm r) 0 0 := by
  refine fd_S.of (by decide +kernel) (Nat.le_of_ble_eq_true rfl) ?_
  unfold fX9_laysTold at hf
  refine fr_loc (lv' := [(0, .ref (g.2.2.2 + 73))]) [0] rfl ?_
  refine fr_aload_n (pc := 0) dX9_laysTold_0 0 rfl rfl ?_
  obtain ⟨h2, hc1, hf⟩ := fd_bi hf
  refine fr_callVv (pc := 1) (av := []) dX9_laysTold_1 yy_X9_asTold kw_563 (by decide) rfl rfl rfl rfl (Nat.le_of_ble_eq_true rfl) ⟨Nat.le_of_ble_eq_true rfl, Nat.le_of_ble_eq_true rfl, Nat.zero_le _, Nat.zero_le _⟩ (sX9_asTold hc1) ?_
  refine fr_aload_n (pc := 4) dX9_laysTold_4 0 rfl rfl ?_
  obtain ⟨h4, hc3, hf⟩ := fd_bi hf
  refine fr_callVv (pc := 5) (av := []) dX9_laysTold_5 yy_X9_lays kw_356 (by decide) rfl rfl rfl rfl (Nat.le_of_ble_eq_true rfl) ⟨Nat.le_of_ble_eq_true rfl, Nat.le_of_ble_eq_true rfl, Nat.zero_le _, Nat.zero_le _⟩ (sX9_lays hc3) ?_
  exact vm_vretW (pc := 8) dX9_laysTold_8 rfl hf
theorem dX9_warmth_0 : decode cX9_warmth 0 = .ok (.aload_n 0, 1) := by decide +kernel
theorem dX9_warmth_1 : decode cX9_warmth 1 = .ok (.iload_n 1, 1) := by decide +kernel
theorem dX9_warmth_2 : decode cX9_warmth 2 = .ok (.invokevirtual 137, 3) := by decide +kernel
theorem dX9_warmth_5 : decode cX9_warmth 5 = .ok (.ifCond .eq 20, 3) := by decide +kernel
theorem dX9_warmth_8 : decode cX9_warmth 8 = .ok (.aload_n 0, 1) := by decide +kernel
theorem dX9_warmth_9 : decode cX9_warmth 9 = .ok (.iload_n 2, 1) := by decide +kernel
theorem dX9_warmth_10 : decode cX9_warmth 10 = .ok (.invokevirtual 134, 3) := by decide +kernel
theorem dX9_warmth_13 : decode cX9_warmth 13 = .ok (.ifCond .eq 12, 3) := by decide +kernel
theorem dX9_warmth_16 : decode cX9_warmth 16 = .ok (.aload_n 0, 1) := by decide +kernel
theorem dX9_warmth_17 : decode cX9_warmth 17 = .ok (.iload_n 1, 1) := by decide +kernel
theorem dX9_warmth_18 : decode cX9_warmth 18 = .ok (.iload_n 2, 1) := by decide +kernel
theorem dX9_warmth_19 : decode cX9_warmth 19 = .ok (.invokevirtual 174, 3) := by decide +kernel
theorem dX9_warmth_22 : decode cX9_warmth 22 = .ok (.goto 6, 3) := by decide +kernel
theorem dX9_warmth_25 : decode cX9_warmth 25 = .ok (.sipush (-1002), 3) := by decide +kernel
theorem dX9_warmth_28 : decode cX9_warmth 28 = .ok (.ireturn, 1) := by decide +kernel
def fX9_warmth (a1 : Int32) (a2 : Int32) (h : fd_H) : Option (Int32 × fd_H) :=
(fX9_isNight a1 h).bind fun q2 =>
if q2.1 = true then (
(fX9_isPlace a2 q2.2).bind fun q5 =>
if q5.1 = true then (
(fX9_warmthOf a1 a2 q5.2).bind fun q8 =>
some (q8.1, q8.2))
else (
some ((-1002 : Int32), q5.2)))
else (
some ((-1002 : Int32), q2.2))
set_option maxRecDepth 100000 in
set_option maxHeartbeats 4000000 in
theorem sX9_warmth {g : fd_G} {hm : fd_H} {a1 : Int32} {a2 : Int32} {r : Int32 × fd_H} {h : fd_H} (hf : fX9_warmth a1 a2 h = some r) : fd_S g mX9_warmth 7 [.ref (g.2.2.2 + 73), .int a1, .int a2] fd_X0 (fd_mx hm h) (some (.int r.1)) fd_X0 (fd_mx hm r.2) 0 0 := by
  refine fd_S.of (by decide +kernel) (Nat.le_of_ble_eq_true rfl) ?_
  unfold fX9_warmth at hf
  refine fr_loc (lv' := [(0, .ref (g.2.2.2 + 73)), (1, .int a1), (2, .int a2)]) [0, 1, 2] rfl ?_
  refine fr_aload_n (pc := 0) dX9_warmth_0 0 rfl rfl ?_
  refine fr_iload_n (pc := 1) dX9_warmth_1 1 rfl rfl ?_
  obtain ⟨q2, hc1, hf⟩ := fd_bi hf
  refine fr_callVz (pc := 2) (av := [.int a1]) dX9_warmth_2 yy_X9_isNight kw_551 (by decide) rfl rfl rfl rfl (Nat.le_of_ble_eq_true rfl) ⟨Nat.le_of_ble_eq_true rfl, Nat.le_of_ble_eq_true rfl, Nat.zero_le _, Nat.zero_le _⟩ (sX9_isNight hc1) ?_
  refine fr_bz (pc := 5) 25 dX9_warmth_5 (by decide) (fun c3 => ?_) (fun c3 => ?_)
  · have hf := fd_f c3 hf
    refine fr_sipush (pc := 25) (v := (-1002 : Int32)) dX9_warmth_25 (by decide) ?_
    exact vm_iretW (x := (-1002 : Int32)) (pc := 28) dX9_warmth_28 rfl hf
  · have hf := fd_t c3 hf
    refine fr_aload_n (pc := 8) dX9_warmth_8 0 rfl rfl ?_
    refine fr_iload_n (pc := 9) dX9_warmth_9 2 rfl rfl ?_
    obtain ⟨q5, hc4, hf⟩ := fd_bi hf
    refine fr_callVz (pc := 10) (av := [.int a2]) dX9_warmth_10 yy_X9_isPlace kw_547 (by decide) rfl rfl rfl rfl (Nat.le_of_ble_eq_true rfl) ⟨Nat.le_of_ble_eq_true rfl, Nat.le_of_ble_eq_true rfl, Nat.zero_le _, Nat.zero_le _⟩ (sX9_isPlace hc4) ?_
    refine fr_bz (pc := 13) 25 dX9_warmth_13 (by decide) (fun c6 => ?_) (fun c6 => ?_)
    · have hf := fd_f c6 hf
      refine fr_sipush (pc := 25) (v := (-1002 : Int32)) dX9_warmth_25 (by decide) ?_
      exact vm_iretW (x := (-1002 : Int32)) (pc := 28) dX9_warmth_28 rfl hf
    · have hf := fd_t c6 hf
      refine fr_aload_n (pc := 16) dX9_warmth_16 0 rfl rfl ?_
      refine fr_iload_n (pc := 17) dX9_warmth_17 1 rfl rfl ?_
      refine fr_iload_n (pc := 18) dX9_warmth_18 2 rfl rfl ?_
      obtain ⟨q8, hc7, hf⟩ := fd_bi hf
      refine fr_callVi (pc := 19) (av := [.int a1, .int a2]) dX9_warmth_19 yy_X9_warmthOf kw_567 (by decide) rfl rfl rfl rfl (Nat.le_of_ble_eq_true rfl) ⟨Nat.le_of_ble_eq_true rfl, Nat.le_of_ble_eq_true rfl, Nat.zero_le _, Nat.zero_le _⟩ (sX9_warmthOf hc7) ?_
      refine fr_goto (pc := 22) 28 dX9_warmth_22 (by decide) ?_
      exact vm_iretW (x := q8.1) (pc := 28) dX9_warmth_28 rfl hf
theorem dX9_freezesOf_0 : decode cX9_freezesOf 0 = .ok (.aload_n 0, 1) := by decide +kernel
theorem dX9_freezesOf_1 : decode cX9_freezesOf 1 = .ok (.invokevirtual 168, 3) := by decide +kernel
theorem dX9_freezesOf_4 : decode cX9_freezesOf 4 = .ok (.aload_n 0, 1) := by decide +kernel
theorem dX9_freezesOf_5 : decode cX9_freezesOf 5 = .ok (.iconst 2, 1) := by decide +kernel
theorem dX9_freezesOf_6 : decode cX9_freezesOf 6 = .ok (.iload_n 1, 1) := by decide +kernel
theorem dX9_freezesOf_7 : decode cX9_freezesOf 7 = .ok (.iload_n 2, 1) := by decide +kernel
theorem dX9_freezesOf_8 : decode cX9_freezesOf 8 = .ok (.invokevirtual 162, 3) := by decide +kernel
theorem dX9_freezesOf_11 : decode cX9_freezesOf 11 = .ok (.ifCond .eq 7, 3) := by decide +kernel
theorem dX9_freezesOf_14 : decode cX9_freezesOf 14 = .ok (.iconst 2, 1) := by decide +kernel
theorem dX9_freezesOf_15 : decode cX9_freezesOf 15 = .ok (.goto 26, 3) := by decide +kernel
theorem dX9_freezesOf_18 : decode cX9_freezesOf 18 = .ok (.aload_n 0, 1) := by decide +kernel
theorem dX9_freezesOf_19 : decode cX9_freezesOf 19 = .ok (.getfield 49, 3) := by decide +kernel
theorem dX9_freezesOf_22 : decode cX9_freezesOf 22 = .ok (.iload_n 1, 1) := by decide +kernel
theorem dX9_freezesOf_23 : decode cX9_freezesOf 23 = .ok (.baload, 1) := by decide +kernel
theorem dX9_freezesOf_24 : decode cX9_freezesOf 24 = .ok (.ifCond .ne 16, 3) := by decide +kernel
theorem dX9_freezesOf_27 : decode cX9_freezesOf 27 = .ok (.aload_n 0, 1) := by decide +kernel
theorem dX9_freezesOf_28 : decode cX9_freezesOf 28 = .ok (.iload_n 1, 1) := by decide +kernel
theorem dX9_freezesOf_29 : decode cX9_freezesOf 29 = .ok (.iload_n 2, 1) := by decide +kernel
theorem dX9_freezesOf_30 : decode cX9_freezesOf 30 = .ok (.invokevirtual 165, 3) := by decide +kernel
theorem dX9_freezesOf_33 : decode cX9_freezesOf 33 = .ok (.ifCond .eq 7, 3) := by decide +kernel
theorem dX9_freezesOf_36 : decode cX9_freezesOf 36 = .ok (.iconst 1, 1) := by decide +kernel
theorem dX9_freezesOf_37 : decode cX9_freezesOf 37 = .ok (.goto 4, 3) := by decide +kernel
theorem dX9_freezesOf_40 : decode cX9_freezesOf 40 = .ok (.iconst 0, 1) := by decide +kernel
theorem dX9_freezesOf_41 : decode cX9_freezesOf 41 = .ok (.ireturn, 1) := by decide +kernel
def fX9_freezesOf (a1 : Int32) (a2 : Int32) (h : fd_H) : Option (Int32 × fd_H) :=
(fX9_asTold h).bind fun h2 =>
(fX9_isTold (2 : Int32) a1 a2 h2).bind fun r4 =>
if r4 = true then (
some ((2 : Int32), h2))
else (
fd_g (fd_in a1 40) (
if (h2.1 87 a1.toNatClampNeg) = 0 then (
(fX9_isCold a1 a2 h2).bind fun r9 =>
if r9 = true then (
some ((1 : Int32), h2))
else (
some ((0 : Int32), h2)))
else (
some ((0 : Int32), h2))))
set_option maxRecDepth 100000 in
set_option maxHeartbeats 4000000 in
theorem sX9_freezesOf {g : fd_G} {hm : fd_H} {a1 : Int32} {a2 : Int32} {r : Int32 × fd_H} {h : fd_H} (hf : fX9_freezesOf a1 a2 h = some r) : fd_S g mX9_freezesOf 7 [.ref (g.2.2.2 + 73), .int a1, .int a2] fd_X0 (fd_mx hm h) (some (.int r.1)) fd_X0 (fd_mx hm r.2) 0 0 := by
  refine fd_S.of (by decide +kernel) (Nat.le_of_ble_eq_true rfl) ?_
  unfold fX9_freezesOf at hf
  refine fr_loc (lv' := [(0, .ref (g.2.2.2 + 73)), (1, .int a1), (2, .int a2)]) [0, 1, 2] rfl ?_
  refine fr_aload_n (pc := 0) dX9_freezesOf_0 0 rfl rfl ?_
  obtain ⟨h2, hc1, hf⟩ := fd_bi hf
  refine fr_callVv (pc := 1) (av := []) dX9_freezesOf_1 yy_X9_asTold kw_563 (by decide) rfl rfl rfl rfl (Nat.le_of_ble_eq_true rfl) ⟨Nat.le_of_ble_eq_true rfl, Nat.le_of_ble_eq_true rfl, Nat.zero_le _, Nat.zero_le _⟩ (sX9_asTold hc1) ?_
  refine fr_aload_n (pc := 4) dX9_freezesOf_4 0 rfl rfl ?_
  refine fr_iconst (pc := 5) (v := (2 : Int32)) dX9_freezesOf_5 (by decide) ?_
  refine fr_iload_n (pc := 6) dX9_freezesOf_6 1 rfl rfl ?_
  refine fr_iload_n (pc := 7) dX9_freezesOf_7 2 rfl rfl ?_
  obtain ⟨r4, hc3, hf⟩ := fd_bi hf
  refine fr_callVz (pc := 8) (av := [.int (2 : Int32), .int a1, .int a2]) dX9_freezesOf_8 yy_X9_isTold kw_162 (by decide) rfl rfl rfl rfl (Nat.le_of_ble_eq_true rfl) ⟨Nat.le_of_ble_eq_true rfl, Nat.le_of_ble_eq_true rfl, Nat.zero_le _, Nat.zero_le _⟩ (sX9_isTold hc3) ?_
  refine fr_bz (pc := 11) 18 dX9_freezesOf_11 (by decide) (fun c5 => ?_) (fun c5 => ?_)
  · have hf := fd_f c5 hf
    refine fr_aload_n (pc := 18) dX9_freezesOf_18 0 rfl rfl ?_
    refine fr_getR (pc := 19) dX9_freezesOf_19 fl_X9_49 (by decide) rfl rfl ?_
    refine fr_iload_n (pc := 22) dX9_freezesOf_22 1 rfl rfl ?_
    obtain ⟨g6, hf⟩ := fd_g_e hf
    refine vm_zald (pc := 23) dX9_freezesOf_23 (by decide) (by decide) rfl g6 ?_
    refine fr_if_ne (pc := 24) 40 dX9_freezesOf_24 (by decide) (fun c7 => ?_) (fun c7 => ?_)
    · have hf := fd_f c7 hf
      refine fr_iconst (pc := 40) (v := (0 : Int32)) dX9_freezesOf_40 (by decide) ?_
      exact vm_iretW (x := (0 : Int32)) (pc := 41) dX9_freezesOf_41 rfl hf
    · have hf := fd_t c7 hf
      refine fr_aload_n (pc := 27) dX9_freezesOf_27 0 rfl rfl ?_
      refine fr_iload_n (pc := 28) dX9_freezesOf_28 1 rfl rfl ?_
      refine fr_iload_n (pc := 29) dX9_freezesOf_29 2 rfl rfl ?_
      obtain ⟨r9, hc8, hf⟩ := fd_bi hf
      refine fr_callVz (pc := 30) (av := [.int a1, .int a2]) dX9_freezesOf_30 yy_X9_isCold kw_254 (by decide) rfl rfl rfl rfl (Nat.le_of_ble_eq_true rfl) ⟨Nat.le_of_ble_eq_true rfl, Nat.le_of_ble_eq_true rfl, Nat.zero_le _, Nat.zero_le _⟩ (sX9_isCold hc8) ?_
      refine fr_bz (pc := 33) 40 dX9_freezesOf_33 (by decide) (fun c10 => ?_) (fun c10 => ?_)
      · have hf := fd_f c10 hf
        refine fr_iconst (pc := 40) (v := (0 : Int32)) dX9_freezesOf_40 (by decide) ?_
        exact vm_iretW (x := (0 : Int32)) (pc := 41) dX9_freezesOf_41 rfl hf
      · have hf := fd_t c10 hf
        refine fr_iconst (pc := 36) (v := (1 : Int32)) dX9_freezesOf_36 (by decide) ?_
        refine fr_goto (pc := 37) 41 dX9_freezesOf_37 (by decide) ?_
        exact vm_iretW (x := (1 : Int32)) (pc := 41) dX9_freezesOf_41 rfl hf
  · have hf := fd_t c5 hf
    refine fr_iconst (pc := 14) (v := (2 : Int32)) dX9_freezesOf_14 (by decide) ?_
    refine fr_goto (pc := 15) 41 dX9_freezesOf_15 (by decide) ?_
    exact vm_iretW (x := (2 : Int32)) (pc := 41) dX9_freezesOf_41 rfl hf
theorem dX9_keepOf_0 : decode cX9_keepOf 0 = .ok (.aload_n 0, 1) := by decide +kernel
theorem dX9_keepOf_1 : decode cX9_keepOf 1 = .ok (.invokevirtual 168, 3) := by decide +kernel
theorem dX9_keepOf_4 : decode cX9_keepOf 4 = .ok (.iconst 0, 1) := by decide +kernel
theorem dX9_keepOf_5 : decode cX9_keepOf 5 = .ok (.istore 4, 2) := by decide +kernel
theorem dX9_keepOf_7 : decode cX9_keepOf 7 = .ok (.iconst (-1), 1) := by decide +kernel
theorem dX9_keepOf_8 : decode cX9_keepOf 8 = .ok (.istore 5, 2) := by decide +kernel
theorem dX9_keepOf_10 : decode cX9_keepOf 10 = .ok (.iconst 0, 1) := by decide +kernel
theorem dX9_keepOf_11 : decode cX9_keepOf 11 = .ok (.istore 6, 2) := by decide +kernel
theorem dX9_keepOf_13 : decode cX9_keepOf 13 = .ok (.iload 6, 2) := by decide +kernel
theorem dX9_keepOf_15 : decode cX9_keepOf 15 = .ok (.iload_n 2, 1) := by decide +kernel
theorem dX9_keepOf_16 : decode cX9_keepOf 16 = .ok (.if_icmp .gt 93, 3) := by decide +kernel
theorem dX9_keepOf_19 : decode cX9_keepOf 19 = .ok (.iload 6, 2) := by decide +kernel
theorem dX9_keepOf_21 : decode cX9_keepOf 21 = .ok (.aload_n 0, 1) := by decide +kernel
theorem dX9_keepOf_22 : decode cX9_keepOf 22 = .ok (.getfield 117, 3) := by decide +kernel
theorem dX9_keepOf_25 : decode cX9_keepOf 25 = .ok (.if_icmp .ge 84, 3) := by decide +kernel
theorem dX9_keepOf_28 : decode cX9_keepOf 28 = .ok (.aload_n 0, 1) := by decide +kernel
theorem dX9_keepOf_29 : decode cX9_keepOf 29 = .ok (.iconst 2, 1) := by decide +kernel
theorem dX9_keepOf_30 : decode cX9_keepOf 30 = .ok (.iload 6, 2) := by decide +kernel
theorem dX9_keepOf_32 : decode cX9_keepOf 32 = .ok (.iload_n 1, 1) := by decide +kernel
theorem dX9_keepOf_33 : decode cX9_keepOf 33 = .ok (.invokevirtual 162, 3) := by decide +kernel
theorem dX9_keepOf_36 : decode cX9_keepOf 36 = .ok (.ifCond .eq 5, 3) := by decide +kernel
theorem dX9_keepOf_39 : decode cX9_keepOf 39 = .ok (.iconst (-1), 1) := by decide +kernel
theorem dX9_keepOf_40 : decode cX9_keepOf 40 = .ok (.ireturn, 1) := by decide +kernel
theorem dX9_keepOf_41 : decode cX9_keepOf 41 = .ok (.aload_n 0, 1) := by decide +kernel
theorem dX9_keepOf_42 : decode cX9_keepOf 42 = .ok (.getfield 49, 3) := by decide +kernel
theorem dX9_keepOf_45 : decode cX9_keepOf 45 = .ok (.iload 6, 2) := by decide +kernel
theorem dX9_keepOf_47 : decode cX9_keepOf 47 = .ok (.baload, 1) := by decide +kernel
theorem dX9_keepOf_48 : decode cX9_keepOf 48 = .ok (.ifCond .ne 17, 3) := by decide +kernel
theorem dX9_keepOf_51 : decode cX9_keepOf 51 = .ok (.aload_n 0, 1) := by decide +kernel
theorem dX9_keepOf_52 : decode cX9_keepOf 52 = .ok (.iload 6, 2) := by decide +kernel
theorem dX9_keepOf_54 : decode cX9_keepOf 54 = .ok (.iload_n 1, 1) := by decide +kernel
theorem dX9_keepOf_55 : decode cX9_keepOf 55 = .ok (.invokevirtual 165, 3) := by decide +kernel
theorem dX9_keepOf_58 : decode cX9_keepOf 58 = .ok (.ifCond .eq 7, 3) := by decide +kernel
theorem dX9_keepOf_61 : decode cX9_keepOf 61 = .ok (.iconst 1, 1) := by decide +kernel
theorem dX9_keepOf_62 : decode cX9_keepOf 62 = .ok (.goto 4, 3) := by decide +kernel
theorem dX9_keepOf_65 : decode cX9_keepOf 65 = .ok (.iconst 0, 1) := by decide +kernel
theorem dX9_keepOf_66 : decode cX9_keepOf 66 = .ok (.istore 7, 2) := by decide +kernel
theorem dX9_keepOf_68 : decode cX9_keepOf 68 = .ok (.iload 7, 2) := by decide +kernel
theorem dX9_keepOf_70 : decode cX9_keepOf 70 = .ok (.ifCond .eq 14, 3) := by decide +kernel
theorem dX9_keepOf_73 : decode cX9_keepOf 73 = .ok (.iload 4, 2) := by decide +kernel
theorem dX9_keepOf_75 : decode cX9_keepOf 75 = .ok (.iload_n 3, 1) := by decide +kernel
theorem dX9_keepOf_76 : decode cX9_keepOf 76 = .ok (.if_icmp .ne 8, 3) := by decide +kernel
theorem dX9_keepOf_79 : decode cX9_keepOf 79 = .ok (.iload 6, 2) := by decide +kernel
theorem dX9_keepOf_81 : decode cX9_keepOf 81 = .ok (.goto 5, 3) := by decide +kernel
theorem dX9_keepOf_84 : decode cX9_keepOf 84 = .ok (.iload 5, 2) := by decide +kernel
theorem dX9_keepOf_86 : decode cX9_keepOf 86 = .ok (.istore 5, 2) := by decide +kernel
theorem dX9_keepOf_88 : decode cX9_keepOf 88 = .ok (.iload 4, 2) := by decide +kernel
theorem dX9_keepOf_90 : decode cX9_keepOf 90 = .ok (.iload 7, 2) := by decide +kernel
theorem dX9_keepOf_92 : decode cX9_keepOf 92 = .ok (.ifCond .eq 7, 3) := by decide +kernel
theorem dX9_keepOf_95 : decode cX9_keepOf 95 = .ok (.iconst 1, 1) := by decide +kernel
theorem dX9_keepOf_96 : decode cX9_keepOf 96 = .ok (.goto 4, 3) := by decide +kernel
theorem dX9_keepOf_99 : decode cX9_keepOf 99 = .ok (.iconst 0, 1) := by decide +kernel
theorem dX9_keepOf_100 : decode cX9_keepOf 100 = .ok (.iadd, 1) := by decide +kernel
theorem dX9_keepOf_101 : decode cX9_keepOf 101 = .ok (.istore 4, 2) := by decide +kernel
theorem dX9_keepOf_103 : decode cX9_keepOf 103 = .ok (.iinc 6 1, 3) := by decide +kernel
theorem dX9_keepOf_106 : decode cX9_keepOf 106 = .ok (.goto (-93), 3) := by decide +kernel
theorem dX9_keepOf_109 : decode cX9_keepOf 109 = .ok (.iload_n 3, 1) := by decide +kernel
theorem dX9_keepOf_110 : decode cX9_keepOf 110 = .ok (.iconst (-1), 1) := by decide +kernel
theorem dX9_keepOf_111 : decode cX9_keepOf 111 = .ok (.if_icmp .ne 8, 3) := by decide +kernel
theorem dX9_keepOf_114 : decode cX9_keepOf 114 = .ok (.iload 4, 2) := by decide +kernel
theorem dX9_keepOf_116 : decode cX9_keepOf 116 = .ok (.goto 5, 3) := by decide +kernel
theorem dX9_keepOf_119 : decode cX9_keepOf 119 = .ok (.iload 5, 2) := by decide +kernel
theorem dX9_keepOf_121 : decode cX9_keepOf 121 = .ok (.ireturn, 1) := by decide +kernel
def fX9_keepOf_L109 (a1 : Int32) (a2 : Int32) (a3 : Int32) (v4 : Int32) (v5 : Int32) (h : fd_H) : Option (Int32 × fd_H) :=
if a3 = (-1 : Int32) then (
some (v4, h))
else (
some (v5, h))
set_option maxRecDepth 100000 in
set_option maxHeartbeats 4000000 in
theorem sX9_keepOf_L109 {g : fd_G} {hm : fd_H} {a1 : Int32} {a2 : Int32} {a3 : Int32} {r : Int32 × fd_H} : ∀ (v4 : Int32) (v5 : Int32) (h : fd_H), fX9_keepOf_L109 a1 a2 a3 v4 v5 h = some r → fd_A g mX9_keepOf fd_E (fd_rm 7 0 0) (fd_Q g (some (.int r.1)) fd_X0 (fd_mx hm r.2) 0 0) 109 [(3, .int a3), (4, .int v4), (5, .int v5)] [] fd_X0 (fd_mx hm h) 0 0 := by
  intro v4 v5 h hf
  unfold fX9_keepOf_L109 at hf
  refine fr_iload_n (pc := 109) dX9_keepOf_109 0 rfl rfl ?_
  refine fr_iconst (pc := 110) (v := (-1 : Int32)) dX9_keepOf_110 (by decide) ?_
  refine fr_icmp_ne (pc := 111) 119 dX9_keepOf_111 (by decide) (fun c1 => ?_) (fun c1 => ?_)
  · have hf := fd_f c1 hf
    refine fr_iload (pc := 119) dX9_keepOf_119 2 rfl ?_
    exact vm_iretW (x := v5) (pc := 121) dX9_keepOf_121 rfl hf
  · have hf := fd_t c1 hf
    refine fr_iload (pc := 114) dX9_keepOf_114 1 rfl ?_
    refine fr_goto (pc := 116) 121 dX9_keepOf_116 (by decide) ?_
    exact vm_iretW (x := v4) (pc := 121) dX9_keepOf_121 rfl hf
def fX9_keepOf_L100 (a1 : Int32) (a2 : Int32) (a3 : Int32) (K13 : Int32 → Int32 → Int32 → fd_H → Option (Int32 × fd_H)) (v5 : Int32) (v6 : Int32) (vs0 : Bool) (vs1 : Int32) (h : fd_H) : Option (Int32 × fd_H) :=
fd_lt ((vs1 + (fd_b vs0))) fun x1 =>
K13 x1 v5 (v6 + (1 : Int32)) h
set_option maxRecDepth 100000 in
set_option maxHeartbeats 4000000 in
theorem sX9_keepOf_L100 {g : fd_G} {hm : fd_H} {a1 : Int32} {a2 : Int32} {a3 : Int32} {r : Int32 × fd_H} {K13 : Int32 → Int32 → Int32 → fd_H → Option (Int32 × fd_H)} (hK13 : ∀ (v4 : Int32) (v5 : Int32) (v6 : Int32) (h : fd_H), K13 v4 v5 v6 h = some r → fd_A g mX9_keepOf fd_E (fd_rm 7 0 0) (fd_Q g (some (.int r.1)) fd_X0 (fd_mx hm r.2) 0 0) 13 [(0, .ref (g.2.2.2 + 73)), (1, .int a1), (2, .int a2), (3, .int a3), (4, .int v4), (5, .int v5), (6, .int v6)] [] fd_X0 (fd_mx hm h) 0 0) : ∀ (v5 : Int32) (v6 : Int32) (vs0 : Bool) (vs1 : Int32) (h : fd_H), fX9_keepOf_L100 a1 a2 a3 K13 v5 v6 vs0 vs1 h = some r → fd_A g mX9_keepOf fd_E (fd_rm 7 0 0) (fd_Q g (some (.int r.1)) fd_X0 (fd_mx hm r.2) 0 0) 100 [(0, .ref (g.2.2.2 + 73)), (1, .int a1), (2, .int a2), (3, .int a3), (5, .int v5), (6, .int v6)] [.int (fd_b vs0), .int vs1] fd_X0 (fd_mx hm h) 0 0 := by
  intro v5 v6 vs0 vs1 h hf
  unfold fX9_keepOf_L100 at hf
  refine fr_iadd (pc := 100) dX9_keepOf_100 ?_
  obtain ⟨x1, ex1, hf⟩ := fd_lt_e hf
  refine fr_nmi ex1 ?_
  refine fr_istore (pc := 101) (lv' := [(4, .int x1), (0, .ref (g.2.2.2 + 73)), (1, .int a1), (2, .int a2), (3, .int a3), (5, .int v5), (6, .int v6)]) dX9_keepOf_101 (by decide) rfl ?_
  refine fr_iinc (pc := 103) (v := (v6 + (1 : Int32))) (lv' := [(6, .int (v6 + (1 : Int32))), (4, .int x1), (0, .ref (g.2.2.2 + 73)), (1, .int a1), (2, .int a2), (3, .int a3), (5, .int v5)]) dX9_keepOf_103 6 rfl rfl (by decide) rfl ?_
  refine fr_goto (pc := 106) 13 dX9_keepOf_106 (by decide) ?_
  refine fr_loc (lv' := [(0, .ref (g.2.2.2 + 73)), (1, .int a1), (2, .int a2), (3, .int a3), (4, .int x1), (5, .int v5), (6, .int (v6 + (1 : Int32)))]) [2, 3, 4, 5, 1, 6, 0] rfl ?_
  exact hK13 _ _ _ _ hf
def fX9_keepOf_L86 (a1 : Int32) (a2 : Int32) (a3 : Int32) (K13 : Int32 → Int32 → Int32 → fd_H → Option (Int32 × fd_H)) (v4 : Int32) (v6 : Int32) (v7 : Bool) (vs0 : Int32) (h : fd_H) : Option (Int32 × fd_H) :=
if v7 = true then (
fX9_keepOf_L100 a1 a2 a3 K13 vs0 v6 true v4 h)
else (
fX9_keepOf_L100 a1 a2 a3 K13 vs0 v6 false v4 h)
set_option maxRecDepth 100000 in
set_option maxHeartbeats 4000000 in
theorem sX9_keepOf_L86 {g : fd_G} {hm : fd_H} {a1 : Int32} {a2 : Int32} {a3 : Int32} {r : Int32 × fd_H} {K13 : Int32 → Int32 → Int32 → fd_H → Option (Int32 × fd_H)} (hK13 : ∀ (v4 : Int32) (v5 : Int32) (v6 : Int32) (h : fd_H), K13 v4 v5 v6 h = some r → fd_A g mX9_keepOf fd_E (fd_rm 7 0 0) (fd_Q g (some (.int r.1)) fd_X0 (fd_mx hm r.2) 0 0) 13 [(0, .ref (g.2.2.2 + 73)), (1, .int a1), (2, .int a2), (3, .int a3), (4, .int v4), (5, .int v5), (6, .int v6)] [] fd_X0 (fd_mx hm h) 0 0) : ∀ (v4 : Int32) (v6 : Int32) (v7 : Bool) (vs0 : Int32) (h : fd_H), fX9_keepOf_L86 a1 a2 a3 K13 v4 v6 v7 vs0 h = some r → fd_A g mX9_keepOf fd_E (fd_rm 7 0 0) (fd_Q g (some (.int r.1)) fd_X0 (fd_mx hm r.2) 0 0) 86 [(0, .ref (g.2.2.2 + 73)), (1, .int a1), (2, .int a2), (3, .int a3), (4, .int v4), (6, .int v6), (7, .int (fd_b v7))] [.int vs0] fd_X0 (fd_mx hm h) 0 0 := by
  intro v4 v6 v7 vs0 h hf
  unfold fX9_keepOf_L86 at hf
  refine fr_istore (pc := 86) (lv' := [(5, .int vs0), (0, .ref (g.2.2.2 + 73)), (1, .int a1), (2, .int a2), (3, .int a3), (4, .int v4), (6, .int v6), (7, .int (fd_b v7))]) dX9_keepOf_86 (by decide) rfl ?_
  refine fr_iload (pc := 88) dX9_keepOf_88 5 rfl ?_
  refine fr_iload (pc := 90) dX9_keepOf_90 7 rfl ?_
  refine fr_bz (pc := 92) 99 dX9_keepOf_92 (by decide) (fun c1 => ?_) (fun c1 => ?_)
  · have hf := fd_f c1 hf
    refine fr_iconst (pc := 99) (v := (0 : Int32)) dX9_keepOf_99 (by decide) ?_
    refine fr_loc (lv' := [(0, .ref (g.2.2.2 + 73)), (1, .int a1), (2, .int a2), (3, .int a3), (5, .int vs0), (6, .int v6)]) [1, 2, 3, 4, 0, 6] rfl ?_
    exact sX9_keepOf_L100 hK13  _ _ _ _ _ hf
  · have hf := fd_t c1 hf
    refine fr_iconst (pc := 95) (v := (1 : Int32)) dX9_keepOf_95 (by decide) ?_
    refine fr_goto (pc := 96) 100 dX9_keepOf_96 (by decide) ?_
    refine fr_loc (lv' := [(0, .ref (g.2.2.2 + 73)), (1, .int a1), (2, .int a2), (3, .int a3), (5, .int vs0), (6, .int v6)]) [1, 2, 3, 4, 0, 6] rfl ?_
    exact sX9_keepOf_L100 hK13  _ _ _ _ _ hf
def fX9_keepOf_L84 (a1 : Int32) (a2 : Int32) (a3 : Int32) (K13 : Int32 → Int32 → Int32 → fd_H → Option (Int32 × fd_H)) (v4 : Int32) (v5 : Int32) (v6 : Int32) (v7 : Bool) (h : fd_H) : Option (Int32 × fd_H) :=
fX9_keepOf_L86 a1 a2 a3 K13 v4 v6 v7 v5 h
set_option maxRecDepth 100000 in
set_option maxHeartbeats 4000000 in
theorem sX9_keepOf_L84 {g : fd_G} {hm : fd_H} {a1 : Int32} {a2 : Int32} {a3 : Int32} {r : Int32 × fd_H} {K13 : Int32 → Int32 → Int32 → fd_H → Option (Int32 × fd_H)} (hK13 : ∀ (v4 : Int32) (v5 : Int32) (v6 : Int32) (h : fd_H), K13 v4 v5 v6 h = some r → fd_A g mX9_keepOf fd_E (fd_rm 7 0 0) (fd_Q g (some (.int r.1)) fd_X0 (fd_mx hm r.2) 0 0) 13 [(0, .ref (g.2.2.2 + 73)), (1, .int a1), (2, .int a2), (3, .int a3), (4, .int v4), (5, .int v5), (6, .int v6)] [] fd_X0 (fd_mx hm h) 0 0) : ∀ (v4 : Int32) (v5 : Int32) (v6 : Int32) (v7 : Bool) (h : fd_H), fX9_keepOf_L84 a1 a2 a3 K13 v4 v5 v6 v7 h = some r → fd_A g mX9_keepOf fd_E (fd_rm 7 0 0) (fd_Q g (some (.int r.1)) fd_X0 (fd_mx hm r.2) 0 0) 84 [(0, .ref (g.2.2.2 + 73)), (1, .int a1), (2, .int a2), (3, .int a3), (4, .int v4), (5, .int v5), (6, .int v6), (7, .int (fd_b v7))] [] fd_X0 (fd_mx hm h) 0 0 := by
  intro v4 v5 v6 v7 h hf
  unfold fX9_keepOf_L84 at hf
  refine fr_iload (pc := 84) dX9_keepOf_84 5 rfl ?_
  refine fr_loc (lv' := [(0, .ref (g.2.2.2 + 73)), (1, .int a1), (2, .int a2), (3, .int a3), (4, .int v4), (6, .int v6), (7, .int (fd_b v7))]) [0, 1, 2, 3, 4, 6, 7] rfl ?_
  exact sX9_keepOf_L86 hK13  _ _ _ _ _ hf
def fX9_keepOf_L66 (a1 : Int32) (a2 : Int32) (a3 : Int32) (K13 : Int32 → Int32 → Int32 → fd_H → Option (Int32 × fd_H)) (v4 : Int32) (v5 : Int32) (v6 : Int32) (vs0 : Bool) (h : fd_H) : Option (Int32 × fd_H) :=
if vs0 = true then (
if v4 = a3 then (
fX9_keepOf_L86 a1 a2 a3 K13 v4 v6 vs0 v6 h)
else (
fX9_keepOf_L84 a1 a2 a3 K13 v4 v5 v6 vs0 h))
else (
fX9_keepOf_L84 a1 a2 a3 K13 v4 v5 v6 vs0 h)
set_option maxRecDepth 100000 in
set_option maxHeartbeats 4000000 in
theorem sX9_keepOf_L66 {g : fd_G} {hm : fd_H} {a1 : Int32} {a2 : Int32} {a3 : Int32} {r : Int32 × fd_H} {K13 : Int32 → Int32 → Int32 → fd_H → Option (Int32 × fd_H)} (hK13 : ∀ (v4 : Int32) (v5 : Int32) (v6 : Int32) (h : fd_H), K13 v4 v5 v6 h = some r → fd_A g mX9_keepOf fd_E (fd_rm 7 0 0) (fd_Q g (some (.int r.1)) fd_X0 (fd_mx hm r.2) 0 0) 13 [(0, .ref (g.2.2.2 + 73)), (1, .int a1), (2, .int a2), (3, .int a3), (4, .int v4), (5, .int v5), (6, .int v6)] [] fd_X0 (fd_mx hm h) 0 0) : ∀ (v4 : Int32) (v5 : Int32) (v6 : Int32) (vs0 : Bool) (h : fd_H), fX9_keepOf_L66 a1 a2 a3 K13 v4 v5 v6 vs0 h = some r → fd_A g mX9_keepOf fd_E (fd_rm 7 0 0) (fd_Q g (some (.int r.1)) fd_X0 (fd_mx hm r.2) 0 0) 66 [(0, .ref (g.2.2.2 + 73)), (1, .int a1), (2, .int a2), (3, .int a3), (4, .int v4), (5, .int v5), (6, .int v6)] [.int (fd_b vs0)] fd_X0 (fd_mx hm h) 0 0 := by
  intro v4 v5 v6 vs0 h hf
  unfold fX9_keepOf_L66 at hf
  refine fr_istore (pc := 66) (lv' := [(7, .int (fd_b vs0)), (0, .ref (g.2.2.2 + 73)), (1, .int a1), (2, .int a2), (3, .int a3), (4, .int v4), (5, .int v5), (6, .int v6)]) dX9_keepOf_66 (by decide) rfl ?_
  refine fr_iload (pc := 68) dX9_keepOf_68 0 rfl ?_
  refine fr_bz (pc := 70) 84 dX9_keepOf_70 (by decide) (fun c1 => ?_) (fun c1 => ?_)
  · have hf := fd_f c1 hf
    refine fr_loc (lv' := [(0, .ref (g.2.2.2 + 73)), (1, .int a1), (2, .int a2), (3, .int a3), (4, .int v4), (5, .int v5), (6, .int v6), (7, .int (fd_b vs0))]) [1, 2, 3, 4, 5, 6, 7, 0] rfl ?_
    exact sX9_keepOf_L84 hK13  _ _ _ _ _ hf
  · have hf := fd_t c1 hf
    refine fr_iload (pc := 73) dX9_keepOf_73 5 rfl ?_
    refine fr_iload_n (pc := 75) dX9_keepOf_75 4 rfl rfl ?_
    refine fr_icmp_ne (pc := 76) 84 dX9_keepOf_76 (by decide) (fun c2 => ?_) (fun c2 => ?_)
    · have hf := fd_f c2 hf
      refine fr_loc (lv' := [(0, .ref (g.2.2.2 + 73)), (1, .int a1), (2, .int a2), (3, .int a3), (4, .int v4), (5, .int v5), (6, .int v6), (7, .int (fd_b vs0))]) [1, 2, 3, 4, 5, 6, 7, 0] rfl ?_
      exact sX9_keepOf_L84 hK13  _ _ _ _ _ hf
    · have hf := fd_t c2 hf
      refine fr_iload (pc := 79) dX9_keepOf_79 7 rfl ?_
      refine fr_goto (pc := 81) 86 dX9_keepOf_81 (by decide) ?_
      refine fr_loc (lv' := [(0, .ref (g.2.2.2 + 73)), (1, .int a1), (2, .int a2), (3, .int a3), (4, .int v4), (6, .int v6), (7, .int (fd_b vs0))]) [1, 2, 3, 4, 5, 7, 0] rfl ?_
      exact sX9_keepOf_L86 hK13  _ _ _ _ _ hf
def fX9_keepOf_L65 (a1 : Int32) (a2 : Int32) (a3 : Int32) (K13 : Int32 → Int32 → Int32 → fd_H → Option (Int32 × fd_H)) (v4 : Int32) (v5 : Int32) (v6 : Int32) (h : fd_H) : Option (Int32 × fd_H) :=
fX9_keepOf_L66 a1 a2 a3 K13 v4 v5 v6 false h
set_option maxRecDepth 100000 in
set_option maxHeartbeats 4000000 in
theorem sX9_keepOf_L65 {g : fd_G} {hm : fd_H} {a1 : Int32} {a2 : Int32} {a3 : Int32} {r : Int32 × fd_H} {K13 : Int32 → Int32 → Int32 → fd_H → Option (Int32 × fd_H)} (hK13 : ∀ (v4 : Int32) (v5 : Int32) (v6 : Int32) (h : fd_H), K13 v4 v5 v6 h = some r → fd_A g mX9_keepOf fd_E (fd_rm 7 0 0) (fd_Q g (some (.int r.1)) fd_X0 (fd_mx hm r.2) 0 0) 13 [(0, .ref (g.2.2.2 + 73)), (1, .int a1), (2, .int a2), (3, .int a3), (4, .int v4), (5, .int v5), (6, .int v6)] [] fd_X0 (fd_mx hm h) 0 0) : ∀ (v4 : Int32) (v5 : Int32) (v6 : Int32) (h : fd_H), fX9_keepOf_L65 a1 a2 a3 K13 v4 v5 v6 h = some r → fd_A g mX9_keepOf fd_E (fd_rm 7 0 0) (fd_Q g (some (.int r.1)) fd_X0 (fd_mx hm r.2) 0 0) 65 [(0, .ref (g.2.2.2 + 73)), (1, .int a1), (2, .int a2), (3, .int a3), (4, .int v4), (5, .int v5), (6, .int v6)] [] fd_X0 (fd_mx hm h) 0 0 := by
  intro v4 v5 v6 h hf
  unfold fX9_keepOf_L65 at hf
  refine fr_iconst (pc := 65) (v := (0 : Int32)) dX9_keepOf_65 (by decide) ?_
  refine fr_loc (lv' := [(0, .ref (g.2.2.2 + 73)), (1, .int a1), (2, .int a2), (3, .int a3), (4, .int v4), (5, .int v5), (6, .int v6)]) [0, 1, 2, 3, 4, 5, 6] rfl ?_
  exact sX9_keepOf_L66 hK13  _ _ _ _ _ hf
def fX9_keepOf_L13 (a1 : Int32) (a2 : Int32) (a3 : Int32) : Nat → Int32 → Int32 → Int32 → fd_H → Option (Int32 × fd_H)
  | 0 => fun _ _ _ _ => none
  | n + 1 => fun v4 v5 v6 h =>
if a2 < v6 then (
fX9_keepOf_L109 a1 a2 a3 v4 v5 h)
else (
if (h.1 73 5) ≤ v6 then (
fX9_keepOf_L109 a1 a2 a3 v4 v5 h)
else (
(fX9_isTold (2 : Int32) v6 a1 h).bind fun r4 =>
if r4 = true then (
some ((-1 : Int32), h))
else (
fd_g (fd_in v6 40) (
if (h.1 87 v6.toNatClampNeg) = 0 then (
(fX9_isCold v6 a1 h).bind fun r9 =>
if r9 = true then (
fX9_keepOf_L66 a1 a2 a3 (fX9_keepOf_L13 a1 a2 a3 n) v4 v5 v6 true h)
else (
fX9_keepOf_L65 a1 a2 a3 (fX9_keepOf_L13 a1 a2 a3 n) v4 v5 v6 h))
else (
fX9_keepOf_L65 a1 a2 a3 (fX9_keepOf_L13 a1 a2 a3 n) v4 v5 v6 h)))))
set_option maxRecDepth 100000 in
set_option maxHeartbeats 4000000 in
theorem sX9_keepOf_L13 {g : fd_G} {hm : fd_H} {a1 : Int32} {a2 : Int32} {a3 : Int32} {r : Int32 × fd_H} : ∀ (n : Nat) (v4 : Int32) (v5 : Int32) (v6 : Int32) (h : fd_H), fX9_keepOf_L13 a1 a2 a3 n v4 v5 v6 h = some r → fd_A g mX9_keepOf fd_E (fd_rm 7 0 0) (fd_Q g (some (.int r.1)) fd_X0 (fd_mx hm r.2) 0 0) 13 [(0, .ref (g.2.2.2 + 73)), (1, .int a1), (2, .int a2), (3, .int a3), (4, .int v4), (5, .int v5), (6, .int v6)] [] fd_X0 (fd_mx hm h) 0 0 := by
  intro n
  induction n with
  | zero =>
    intro _ _ _ _ hf
    cases hf
  | succ n ih =>
    intro v4 v5 v6 h hf
    rw [fX9_keepOf_L13] at hf
    refine fr_iload (pc := 13) dX9_keepOf_13 6 rfl ?_
    refine fr_iload_n (pc := 15) dX9_keepOf_15 2 rfl rfl ?_
    refine fr_icmp_gt (pc := 16) 109 dX9_keepOf_16 (by decide) (fun c1 => ?_) (fun c1 => ?_)
    · have hf := fd_t c1 hf
      refine fr_loc (lv' := [(3, .int a3), (4, .int v4), (5, .int v5)]) [3, 4, 5] rfl ?_
      exact sX9_keepOf_L109  _ _ _ hf
    · have hf := fd_f c1 hf
      refine fr_iload (pc := 19) dX9_keepOf_19 6 rfl ?_
      refine fr_aload_n (pc := 21) dX9_keepOf_21 0 rfl rfl ?_
      refine vm_getI (pc := 22) dX9_keepOf_22 fl_X9_117 (by decide) (by decide) rfl rfl ?_
      refine fr_icmp_ge (pc := 25) 109 dX9_keepOf_25 (by decide) (fun c2 => ?_) (fun c2 => ?_)
      · have hf := fd_t c2 hf
        refine fr_loc (lv' := [(3, .int a3), (4, .int v4), (5, .int v5)]) [3, 4, 5] rfl ?_
        exact sX9_keepOf_L109  _ _ _ hf
      · have hf := fd_f c2 hf
        refine fr_aload_n (pc := 28) dX9_keepOf_28 0 rfl rfl ?_
        refine fr_iconst (pc := 29) (v := (2 : Int32)) dX9_keepOf_29 (by decide) ?_
        refine fr_iload (pc := 30) dX9_keepOf_30 6 rfl ?_
        refine fr_iload_n (pc := 32) dX9_keepOf_32 1 rfl rfl ?_
        obtain ⟨r4, hc3, hf⟩ := fd_bi hf
        refine fr_callVz (pc := 33) (av := [.int (2 : Int32), .int v6, .int a1]) dX9_keepOf_33 yy_X9_isTold kw_162 (by decide) rfl rfl rfl rfl (Nat.le_of_ble_eq_true rfl) ⟨Nat.le_of_ble_eq_true rfl, Nat.le_of_ble_eq_true rfl, Nat.zero_le _, Nat.zero_le _⟩ (sX9_isTold hc3) ?_
        refine fr_bz (pc := 36) 41 dX9_keepOf_36 (by decide) (fun c5 => ?_) (fun c5 => ?_)
        · have hf := fd_f c5 hf
          refine fr_aload_n (pc := 41) dX9_keepOf_41 0 rfl rfl ?_
          refine fr_getR (pc := 42) dX9_keepOf_42 fl_X9_49 (by decide) rfl rfl ?_
          refine fr_iload (pc := 45) dX9_keepOf_45 6 rfl ?_
          obtain ⟨g6, hf⟩ := fd_g_e hf
          refine vm_zald (pc := 47) dX9_keepOf_47 (by decide) (by decide) rfl g6 ?_
          refine fr_if_ne (pc := 48) 65 dX9_keepOf_48 (by decide) (fun c7 => ?_) (fun c7 => ?_)
          · have hf := fd_f c7 hf
            refine fr_loc (lv' := [(0, .ref (g.2.2.2 + 73)), (1, .int a1), (2, .int a2), (3, .int a3), (4, .int v4), (5, .int v5), (6, .int v6)]) [0, 1, 2, 3, 4, 5, 6] rfl ?_
            exact sX9_keepOf_L65 ih  _ _ _ _ hf
          · have hf := fd_t c7 hf
            refine fr_aload_n (pc := 51) dX9_keepOf_51 0 rfl rfl ?_
            refine fr_iload (pc := 52) dX9_keepOf_52 6 rfl ?_
            refine fr_iload_n (pc := 54) dX9_keepOf_54 1 rfl rfl ?_
            obtain ⟨r9, hc8, hf⟩ := fd_bi hf
            refine fr_callVz (pc := 55) (av := [.int v6, .int a1]) dX9_keepOf_55 yy_X9_isCold kw_254 (by decide) rfl rfl rfl rfl (Nat.le_of_ble_eq_true rfl) ⟨Nat.le_of_ble_eq_true rfl, Nat.le_of_ble_eq_true rfl, Nat.zero_le _, Nat.zero_le _⟩ (sX9_isCold hc8) ?_
            refine fr_bz (pc := 58) 65 dX9_keepOf_58 (by decide) (fun c10 => ?_) (fun c10 => ?_)
            · have hf := fd_f c10 hf
              refine fr_loc (lv' := [(0, .ref (g.2.2.2 + 73)), (1, .int a1), (2, .int a2), (3, .int a3), (4, .int v4), (5, .int v5), (6, .int v6)]) [0, 1, 2, 3, 4, 5, 6] rfl ?_
              exact sX9_keepOf_L65 ih  _ _ _ _ hf
            · have hf := fd_t c10 hf
              refine fr_iconst (pc := 61) (v := (1 : Int32)) dX9_keepOf_61 (by decide) ?_
              refine fr_goto (pc := 62) 66 dX9_keepOf_62 (by decide) ?_
              refine fr_loc (lv' := [(0, .ref (g.2.2.2 + 73)), (1, .int a1), (2, .int a2), (3, .int a3), (4, .int v4), (5, .int v5), (6, .int v6)]) [0, 1, 2, 3, 4, 5, 6] rfl ?_
              exact sX9_keepOf_L66 ih  _ _ _ _ _ hf
        · have hf := fd_t c5 hf
          refine fr_iconst (pc := 39) (v := (-1 : Int32)) dX9_keepOf_39 (by decide) ?_
          exact vm_iretW (x := (-1 : Int32)) (pc := 40) dX9_keepOf_40 rfl hf
def fX9_keepOf (a1 : Int32) (a2 : Int32) (a3 : Int32) (h : fd_H) : Option (Int32 × fd_H) :=
(fX9_asTold h).bind fun h2 =>
fX9_keepOf_L13 a1 a2 a3 fd_fu (0 : Int32) (-1 : Int32) (0 : Int32) h2
set_option maxRecDepth 100000 in
set_option maxHeartbeats 4000000 in
theorem sX9_keepOf {g : fd_G} {hm : fd_H} {a1 : Int32} {a2 : Int32} {a3 : Int32} {r : Int32 × fd_H} {h : fd_H} (hf : fX9_keepOf a1 a2 a3 h = some r) : fd_S g mX9_keepOf 7 [.ref (g.2.2.2 + 73), .int a1, .int a2, .int a3] fd_X0 (fd_mx hm h) (some (.int r.1)) fd_X0 (fd_mx hm r.2) 0 0 := by
  refine fd_S.of (by decide +kernel) (Nat.le_of_ble_eq_true rfl) ?_
  unfold fX9_keepOf at hf
  refine fr_loc (lv' := [(0, .ref (g.2.2.2 + 73)), (1, .int a1), (2, .int a2), (3, .int a3)]) [0, 1, 2, 3] rfl ?_
  refine fr_aload_n (pc := 0) dX9_keepOf_0 0 rfl rfl ?_
  obtain ⟨h2, hc1, hf⟩ := fd_bi hf
  refine fr_callVv (pc := 1) (av := []) dX9_keepOf_1 yy_X9_asTold kw_563 (by decide) rfl rfl rfl rfl (Nat.le_of_ble_eq_true rfl) ⟨Nat.le_of_ble_eq_true rfl, Nat.le_of_ble_eq_true rfl, Nat.zero_le _, Nat.zero_le _⟩ (sX9_asTold hc1) ?_
  refine fr_iconst (pc := 4) (v := (0 : Int32)) dX9_keepOf_4 (by decide) ?_
  refine fr_istore (pc := 5) (lv' := [(4, .int (0 : Int32)), (0, .ref (g.2.2.2 + 73)), (1, .int a1), (2, .int a2), (3, .int a3)]) dX9_keepOf_5 (by decide) rfl ?_
  refine fr_iconst (pc := 7) (v := (-1 : Int32)) dX9_keepOf_7 (by decide) ?_
  refine fr_istore (pc := 8) (lv' := [(5, .int (-1 : Int32)), (4, .int (0 : Int32)), (0, .ref (g.2.2.2 + 73)), (1, .int a1), (2, .int a2), (3, .int a3)]) dX9_keepOf_8 (by decide) rfl ?_
  refine fr_iconst (pc := 10) (v := (0 : Int32)) dX9_keepOf_10 (by decide) ?_
  refine fr_istore (pc := 11) (lv' := [(6, .int (0 : Int32)), (5, .int (-1 : Int32)), (4, .int (0 : Int32)), (0, .ref (g.2.2.2 + 73)), (1, .int a1), (2, .int a2), (3, .int a3)]) dX9_keepOf_11 (by decide) rfl ?_
  refine fr_loc (lv' := [(0, .ref (g.2.2.2 + 73)), (1, .int a1), (2, .int a2), (3, .int a3), (4, .int (0 : Int32)), (5, .int (-1 : Int32)), (6, .int (0 : Int32))]) [3, 4, 5, 6, 2, 1, 0] rfl ?_
  exact sX9_keepOf_L13 _  _ _ _ _ hf
