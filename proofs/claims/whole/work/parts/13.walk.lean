theorem dX9_get_0 : decode cX9_get 0 = .ok (.iload_n 1, 1) := by decide +kernel
theorem dX9_get_1 : decode cX9_get 1 = .ok (.invokestatic 238, 3) := by decide +kernel
theorem dX9_get_4 : decode cX9_get 4 = .ok (.ifCond .eq 12, 3) := by decide +kernel
theorem dX9_get_7 : decode cX9_get 7 = .ok (.iload_n 2, 1) := by decide +kernel
theorem dX9_get_8 : decode cX9_get 8 = .ok (.iconst 0, 1) := by decide +kernel
theorem dX9_get_9 : decode cX9_get 9 = .ok (.iconst 2, 1) := by decide +kernel
theorem dX9_get_10 : decode cX9_get 10 = .ok (.invokestatic 89, 3) := by decide +kernel
theorem dX9_get_13 : decode cX9_get 13 = .ok (.ifCond .ne 7, 3) := by decide +kernel
theorem dX9_get_16 : decode cX9_get 16 = .ok (.ldc_w 291, 3) := by decide +kernel
theorem dX9_get_19 : decode cX9_get 19 = .ok (.ireturn, 1) := by decide +kernel
theorem dX9_get_20 : decode cX9_get 20 = .ok (.aload_n 0, 1) := by decide +kernel
theorem dX9_get_21 : decode cX9_get 21 = .ok (.iload_n 1, 1) := by decide +kernel
theorem dX9_get_22 : decode cX9_get 22 = .ok (.iload_n 2, 1) := by decide +kernel
theorem dX9_get_23 : decode cX9_get 23 = .ok (.iload_n 3, 1) := by decide +kernel
theorem dX9_get_24 : decode cX9_get 24 = .ok (.invokevirtual 284, 3) := by decide +kernel
theorem dX9_get_27 : decode cX9_get 27 = .ok (.istore 4, 2) := by decide +kernel
theorem dX9_get_29 : decode cX9_get 29 = .ok (.iload 4, 2) := by decide +kernel
theorem dX9_get_31 : decode cX9_get 31 = .ok (.ifCond .le 13, 3) := by decide +kernel
theorem dX9_get_34 : decode cX9_get 34 = .ok (.aload_n 0, 1) := by decide +kernel
theorem dX9_get_35 : decode cX9_get 35 = .ok (.iload 4, 2) := by decide +kernel
theorem dX9_get_37 : decode cX9_get 37 = .ok (.putfield 281, 3) := by decide +kernel
theorem dX9_get_40 : decode cX9_get 40 = .ok (.ldc_w 291, 3) := by decide +kernel
theorem dX9_get_43 : decode cX9_get 43 = .ok (.ireturn, 1) := by decide +kernel
theorem dX9_get_44 : decode cX9_get 44 = .ok (.aload_n 0, 1) := by decide +kernel
theorem dX9_get_45 : decode cX9_get 45 = .ok (.getfield 77, 3) := by decide +kernel
theorem dX9_get_48 : decode cX9_get 48 = .ok (.bipush 48, 2) := by decide +kernel
theorem dX9_get_50 : decode cX9_get 50 = .ok (.iload_n 1, 1) := by decide +kernel
theorem dX9_get_51 : decode cX9_get 51 = .ok (.imul, 1) := by decide +kernel
theorem dX9_get_52 : decode cX9_get 52 = .ok (.iload_n 3, 1) := by decide +kernel
theorem dX9_get_53 : decode cX9_get 53 = .ok (.iadd, 1) := by decide +kernel
theorem dX9_get_54 : decode cX9_get 54 = .ok (.iaload, 1) := by decide +kernel
theorem dX9_get_55 : decode cX9_get 55 = .ok (.ireturn, 1) := by decide +kernel
def fX9_get_L16 (a1 : Int32) (a2 : Int32) (a3 : Int32) (h : fd_H) : Option (Int32 × fd_H) :=
some ((-2147483648 : Int32), h)
set_option maxRecDepth 100000 in
set_option maxHeartbeats 4000000 in
theorem sX9_get_L16 {g : fd_G} {hm : fd_H} {a1 : Int32} {a2 : Int32} {a3 : Int32} {r : Int32 × fd_H} : ∀ (h : fd_H), fX9_get_L16 a1 a2 a3 h = some r → fd_A g mX9_get fd_E (fd_rm 2 0 0) (fd_Q g (some (.int r.1)) fd_X0 (fd_mx hm r.2) 0 0) 16 [] [] fd_X0 (fd_mx hm h) 0 0 := by
  intro h hf
  unfold fX9_get_L16 at hf
  refine fr_ldcw (pc := 16) (v := (-2147483648 : Int32)) dX9_get_16 kw_278 ?_
  exact vm_iretW (x := (-2147483648 : Int32)) (pc := 19) dX9_get_19 rfl hf
def fX9_get (a1 : Int32) (a2 : Int32) (a3 : Int32) (h : fd_H) : Option (Int32 × fd_H) :=
(fX9_isSheet a1).bind fun r2 =>
if r2 = true then (
(fX9_in a2 (0 : Int32) (2 : Int32)).bind fun r5 =>
if r5 = true then (
(fX9_lacks a1 a2 a3 h).bind fun r8 =>
if r8 ≤ 0 then (
fd_g (fd_in (((48 : Int32) * a1) + a3) 192) (
some ((h.1 96 (((48 : Int32) * a1) + a3).toNatClampNeg), h)))
else (
fd_lt (fd_ui h 73 30 r8) fun h11 =>
some ((-2147483648 : Int32), h11)))
else (
fX9_get_L16 a1 a2 a3 h))
else (
fX9_get_L16 a1 a2 a3 h)
set_option maxRecDepth 100000 in
set_option maxHeartbeats 4000000 in
theorem sX9_get {g : fd_G} {hm : fd_H} {a1 : Int32} {a2 : Int32} {a3 : Int32} {r : Int32 × fd_H} {h : fd_H} (hf : fX9_get a1 a2 a3 h = some r) : fd_S g mX9_get 2 [.ref (g.2.2.2 + 73), .int a1, .int a2, .int a3] fd_X0 (fd_mx hm h) (some (.int r.1)) fd_X0 (fd_mx hm r.2) 0 0 := by
  refine fd_S.of (by decide +kernel) (Nat.le_of_ble_eq_true rfl) ?_
  unfold fX9_get at hf
  refine fr_loc (lv' := [(0, .ref (g.2.2.2 + 73)), (1, .int a1), (2, .int a2), (3, .int a3)]) [0, 1, 2, 3] rfl ?_
  refine fr_iload_n (pc := 0) dX9_get_0 1 rfl rfl ?_
  obtain ⟨r2, hc1, hf⟩ := fd_bi hf
  refine fr_callSz (pc := 1) (av := [.int a1]) dX9_get_1 yy_X9_isSheet kw_265 rfl rfl (Nat.le_of_ble_eq_true rfl) ⟨Nat.le_of_ble_eq_true rfl, Nat.le_of_ble_eq_true rfl, Nat.zero_le _, Nat.zero_le _⟩ (sX9_isSheet hc1) ?_
  refine fr_bz (pc := 4) 16 dX9_get_4 (by decide) (fun c3 => ?_) (fun c3 => ?_)
  · have hf := fd_f c3 hf
    refine fr_loc (lv' := []) [] rfl ?_
    exact sX9_get_L16  _ hf
  · have hf := fd_t c3 hf
    refine fr_iload_n (pc := 7) dX9_get_7 2 rfl rfl ?_
    refine fr_iconst (pc := 8) (v := (0 : Int32)) dX9_get_8 (by decide) ?_
    refine fr_iconst (pc := 9) (v := (2 : Int32)) dX9_get_9 (by decide) ?_
    obtain ⟨r5, hc4, hf⟩ := fd_bi hf
    refine fr_callSz (pc := 10) (av := [.int a2, .int (0 : Int32), .int (2 : Int32)]) dX9_get_10 yy_X9_in kw_148 rfl rfl (Nat.le_of_ble_eq_true rfl) ⟨Nat.le_of_ble_eq_true rfl, Nat.le_of_ble_eq_true rfl, Nat.zero_le _, Nat.zero_le _⟩ (sX9_in hc4) ?_
    refine fr_bn (pc := 13) 20 dX9_get_13 (by decide) (fun c6 => ?_) (fun c6 => ?_)
    · have hf := fd_t c6 hf
      refine fr_aload_n (pc := 20) dX9_get_20 0 rfl rfl ?_
      refine fr_iload_n (pc := 21) dX9_get_21 1 rfl rfl ?_
      refine fr_iload_n (pc := 22) dX9_get_22 2 rfl rfl ?_
      refine fr_iload_n (pc := 23) dX9_get_23 3 rfl rfl ?_
      obtain ⟨r8, hc7, hf⟩ := fd_bi hf
      refine fr_callVi (pc := 24) (av := [.int a1, .int a2, .int a3]) dX9_get_24 yy_X9_lacks kw_273 (by decide) rfl rfl rfl rfl (Nat.le_of_ble_eq_true rfl) ⟨Nat.le_of_ble_eq_true rfl, Nat.le_of_ble_eq_true rfl, Nat.zero_le _, Nat.zero_le _⟩ (sX9_lacks hc7) ?_
      refine fr_istore (pc := 27) (lv' := [(4, .int r8), (0, .ref (g.2.2.2 + 73)), (1, .int a1), (2, .int a2), (3, .int a3)]) dX9_get_27 (by decide) rfl ?_
      refine fr_iload (pc := 29) dX9_get_29 0 rfl ?_
      refine fr_if_le (pc := 31) 44 dX9_get_31 (by decide) (fun c9 => ?_) (fun c9 => ?_)
      · have hf := fd_t c9 hf
        refine fr_aload_n (pc := 44) dX9_get_44 1 rfl rfl ?_
        refine fr_getR (pc := 45) dX9_get_45 fl_X9_77 (by decide) rfl rfl ?_
        refine fr_bipush (pc := 48) (v := (48 : Int32)) dX9_get_48 (by decide) ?_
        refine fr_iload_n (pc := 50) dX9_get_50 2 rfl rfl ?_
        refine fr_imul (pc := 51) dX9_get_51 ?_
        refine fr_iload_n (pc := 52) dX9_get_52 4 rfl rfl ?_
        refine fr_iadd (pc := 53) dX9_get_53 ?_
        obtain ⟨g10, hf⟩ := fd_g_e hf
        refine vm_iald (pc := 54) dX9_get_54 (by decide) (by decide) rfl g10 ?_
        exact vm_iretW (x := (h.1 96 (((48 : Int32) * a1) + a3).toNatClampNeg)) (pc := 55) dX9_get_55 rfl hf
      · have hf := fd_f c9 hf
        refine fr_aload_n (pc := 34) dX9_get_34 1 rfl rfl ?_
        refine fr_iload (pc := 35) dX9_get_35 0 rfl ?_
        obtain ⟨h11, eh11, hf⟩ := fd_lt_e hf
        refine vm_putI (pc := 37) dX9_get_37 fl_X9_281 ft_X9_30 (by decide) (by decide) rfl rfl eh11 ?_
        refine fr_ldcw (pc := 40) (v := (-2147483648 : Int32)) dX9_get_40 kw_278 ?_
        exact vm_iretW (x := (-2147483648 : Int32)) (pc := 43) dX9_get_43 rfl hf
    · have hf := fd_f c6 hf
      refine fr_loc (lv' := []) [] rfl ?_
      exact sX9_get_L16  _ hf
theorem dX9_copy_0 : decode cX9_copy 0 = .ok (.iload_n 1, 1) := by decide +kernel
theorem dX9_copy_1 : decode cX9_copy 1 = .ok (.invokestatic 238, 3) := by decide +kernel
theorem dX9_copy_4 : decode cX9_copy 4 = .ok (.ifCond .eq 10, 3) := by decide +kernel
theorem dX9_copy_7 : decode cX9_copy 7 = .ok (.iload_n 3, 1) := by decide +kernel
theorem dX9_copy_8 : decode cX9_copy 8 = .ok (.invokestatic 238, 3) := by decide +kernel
theorem dX9_copy_11 : decode cX9_copy 11 = .ok (.ifCond .ne 6, 3) := by decide +kernel
theorem dX9_copy_14 : decode cX9_copy 14 = .ok (.bipush (-2), 2) := by decide +kernel
theorem dX9_copy_16 : decode cX9_copy 16 = .ok (.ireturn, 1) := by decide +kernel
theorem dX9_copy_17 : decode cX9_copy 17 = .ok (.aload_n 0, 1) := by decide +kernel
theorem dX9_copy_18 : decode cX9_copy 18 = .ok (.getfield 68, 3) := by decide +kernel
theorem dX9_copy_21 : decode cX9_copy 21 = .ok (.iload_n 1, 1) := by decide +kernel
theorem dX9_copy_22 : decode cX9_copy 22 = .ok (.baload, 1) := by decide +kernel
theorem dX9_copy_23 : decode cX9_copy 23 = .ok (.ifCond .eq 12, 3) := by decide +kernel
theorem dX9_copy_26 : decode cX9_copy 26 = .ok (.aload_n 0, 1) := by decide +kernel
theorem dX9_copy_27 : decode cX9_copy 27 = .ok (.getfield 68, 3) := by decide +kernel
theorem dX9_copy_30 : decode cX9_copy 30 = .ok (.iload_n 3, 1) := by decide +kernel
theorem dX9_copy_31 : decode cX9_copy 31 = .ok (.baload, 1) := by decide +kernel
theorem dX9_copy_32 : decode cX9_copy 32 = .ok (.ifCond .ne 9, 3) := by decide +kernel
theorem dX9_copy_35 : decode cX9_copy 35 = .ok (.aload_n 0, 1) := by decide +kernel
theorem dX9_copy_36 : decode cX9_copy 36 = .ok (.iconst 1, 1) := by decide +kernel
theorem dX9_copy_37 : decode cX9_copy 37 = .ok (.invokevirtual 241, 3) := by decide +kernel
theorem dX9_copy_40 : decode cX9_copy 40 = .ok (.ireturn, 1) := by decide +kernel
theorem dX9_copy_41 : decode cX9_copy 41 = .ok (.aload_n 0, 1) := by decide +kernel
theorem dX9_copy_42 : decode cX9_copy 42 = .ok (.getfield 71, 3) := by decide +kernel
theorem dX9_copy_45 : decode cX9_copy 45 = .ok (.iload_n 1, 1) := by decide +kernel
theorem dX9_copy_46 : decode cX9_copy 46 = .ok (.iaload, 1) := by decide +kernel
theorem dX9_copy_47 : decode cX9_copy 47 = .ok (.aload_n 0, 1) := by decide +kernel
theorem dX9_copy_48 : decode cX9_copy 48 = .ok (.getfield 71, 3) := by decide +kernel
theorem dX9_copy_51 : decode cX9_copy 51 = .ok (.iload_n 3, 1) := by decide +kernel
theorem dX9_copy_52 : decode cX9_copy 52 = .ok (.iaload, 1) := by decide +kernel
theorem dX9_copy_53 : decode cX9_copy 53 = .ok (.if_icmp .eq 9, 3) := by decide +kernel
theorem dX9_copy_56 : decode cX9_copy 56 = .ok (.aload_n 0, 1) := by decide +kernel
theorem dX9_copy_57 : decode cX9_copy 57 = .ok (.iconst 4, 1) := by decide +kernel
theorem dX9_copy_58 : decode cX9_copy 58 = .ok (.invokevirtual 241, 3) := by decide +kernel
theorem dX9_copy_61 : decode cX9_copy 61 = .ok (.ireturn, 1) := by decide +kernel
theorem dX9_copy_62 : decode cX9_copy 62 = .ok (.iload_n 2, 1) := by decide +kernel
theorem dX9_copy_63 : decode cX9_copy 63 = .ok (.ifCond .lt 48, 3) := by decide +kernel
theorem dX9_copy_66 : decode cX9_copy 66 = .ok (.iload 4, 2) := by decide +kernel
theorem dX9_copy_68 : decode cX9_copy 68 = .ok (.ifCond .lt 43, 3) := by decide +kernel
theorem dX9_copy_71 : decode cX9_copy 71 = .ok (.iload 5, 2) := by decide +kernel
theorem dX9_copy_73 : decode cX9_copy 73 = .ok (.ifCond .lt 38, 3) := by decide +kernel
theorem dX9_copy_76 : decode cX9_copy 76 = .ok (.iload_n 2, 1) := by decide +kernel
theorem dX9_copy_77 : decode cX9_copy 77 = .ok (.i2l, 1) := by decide +kernel
theorem dX9_copy_78 : decode cX9_copy 78 = .ok (.iload 5, 2) := by decide +kernel
theorem dX9_copy_80 : decode cX9_copy 80 = .ok (.i2l, 1) := by decide +kernel
theorem dX9_copy_81 : decode cX9_copy 81 = .ok (.ladd, 1) := by decide +kernel
theorem dX9_copy_82 : decode cX9_copy 82 = .ok (.aload_n 0, 1) := by decide +kernel
theorem dX9_copy_83 : decode cX9_copy 83 = .ok (.getfield 74, 3) := by decide +kernel
theorem dX9_copy_86 : decode cX9_copy 86 = .ok (.iload_n 1, 1) := by decide +kernel
theorem dX9_copy_87 : decode cX9_copy 87 = .ok (.iaload, 1) := by decide +kernel
theorem dX9_copy_88 : decode cX9_copy 88 = .ok (.i2l, 1) := by decide +kernel
theorem dX9_copy_89 : decode cX9_copy 89 = .ok (.lcmp, 1) := by decide +kernel
theorem dX9_copy_90 : decode cX9_copy 90 = .ok (.ifCond .gt 21, 3) := by decide +kernel
theorem dX9_copy_93 : decode cX9_copy 93 = .ok (.iload 4, 2) := by decide +kernel
theorem dX9_copy_95 : decode cX9_copy 95 = .ok (.i2l, 1) := by decide +kernel
theorem dX9_copy_96 : decode cX9_copy 96 = .ok (.iload 5, 2) := by decide +kernel
theorem dX9_copy_98 : decode cX9_copy 98 = .ok (.i2l, 1) := by decide +kernel
theorem dX9_copy_99 : decode cX9_copy 99 = .ok (.ladd, 1) := by decide +kernel
theorem dX9_copy_100 : decode cX9_copy 100 = .ok (.aload_n 0, 1) := by decide +kernel
theorem dX9_copy_101 : decode cX9_copy 101 = .ok (.getfield 74, 3) := by decide +kernel
theorem dX9_copy_104 : decode cX9_copy 104 = .ok (.iload_n 3, 1) := by decide +kernel
theorem dX9_copy_105 : decode cX9_copy 105 = .ok (.iaload, 1) := by decide +kernel
theorem dX9_copy_106 : decode cX9_copy 106 = .ok (.i2l, 1) := by decide +kernel
theorem dX9_copy_107 : decode cX9_copy 107 = .ok (.lcmp, 1) := by decide +kernel
theorem dX9_copy_108 : decode cX9_copy 108 = .ok (.ifCond .le 9, 3) := by decide +kernel
theorem dX9_copy_111 : decode cX9_copy 111 = .ok (.aload_n 0, 1) := by decide +kernel
theorem dX9_copy_112 : decode cX9_copy 112 = .ok (.iconst 2, 1) := by decide +kernel
theorem dX9_copy_113 : decode cX9_copy 113 = .ok (.invokevirtual 241, 3) := by decide +kernel
theorem dX9_copy_116 : decode cX9_copy 116 = .ok (.ireturn, 1) := by decide +kernel
theorem dX9_copy_117 : decode cX9_copy 117 = .ok (.iconst 0, 1) := by decide +kernel
theorem dX9_copy_118 : decode cX9_copy 118 = .ok (.istore 6, 2) := by decide +kernel
theorem dX9_copy_120 : decode cX9_copy 120 = .ok (.iload 6, 2) := by decide +kernel
theorem dX9_copy_122 : decode cX9_copy 122 = .ok (.iload 5, 2) := by decide +kernel
theorem dX9_copy_124 : decode cX9_copy 124 = .ok (.if_icmp .ge 30, 3) := by decide +kernel
theorem dX9_copy_127 : decode cX9_copy 127 = .ok (.aload_n 0, 1) := by decide +kernel
theorem dX9_copy_128 : decode cX9_copy 128 = .ok (.getfield 80, 3) := by decide +kernel
theorem dX9_copy_131 : decode cX9_copy 131 = .ok (.iload 6, 2) := by decide +kernel
theorem dX9_copy_133 : decode cX9_copy 133 = .ok (.aload_n 0, 1) := by decide +kernel
theorem dX9_copy_134 : decode cX9_copy 134 = .ok (.getfield 77, 3) := by decide +kernel
theorem dX9_copy_137 : decode cX9_copy 137 = .ok (.bipush 48, 2) := by decide +kernel
theorem dX9_copy_139 : decode cX9_copy 139 = .ok (.iload_n 1, 1) := by decide +kernel
theorem dX9_copy_140 : decode cX9_copy 140 = .ok (.imul, 1) := by decide +kernel
theorem dX9_copy_141 : decode cX9_copy 141 = .ok (.iload_n 2, 1) := by decide +kernel
theorem dX9_copy_142 : decode cX9_copy 142 = .ok (.iadd, 1) := by decide +kernel
theorem dX9_copy_143 : decode cX9_copy 143 = .ok (.iload 6, 2) := by decide +kernel
theorem dX9_copy_145 : decode cX9_copy 145 = .ok (.iadd, 1) := by decide +kernel
theorem dX9_copy_146 : decode cX9_copy 146 = .ok (.iaload, 1) := by decide +kernel
theorem dX9_copy_147 : decode cX9_copy 147 = .ok (.iastore, 1) := by decide +kernel
theorem dX9_copy_148 : decode cX9_copy 148 = .ok (.iinc 6 1, 3) := by decide +kernel
theorem dX9_copy_151 : decode cX9_copy 151 = .ok (.goto (-31), 3) := by decide +kernel
theorem dX9_copy_154 : decode cX9_copy 154 = .ok (.iconst 0, 1) := by decide +kernel
theorem dX9_copy_155 : decode cX9_copy 155 = .ok (.istore 6, 2) := by decide +kernel
theorem dX9_copy_157 : decode cX9_copy 157 = .ok (.iload 6, 2) := by decide +kernel
theorem dX9_copy_159 : decode cX9_copy 159 = .ok (.iload 5, 2) := by decide +kernel
theorem dX9_copy_161 : decode cX9_copy 161 = .ok (.if_icmp .ge 31, 3) := by decide +kernel
theorem dX9_copy_164 : decode cX9_copy 164 = .ok (.aload_n 0, 1) := by decide +kernel
theorem dX9_copy_165 : decode cX9_copy 165 = .ok (.getfield 77, 3) := by decide +kernel
theorem dX9_copy_168 : decode cX9_copy 168 = .ok (.bipush 48, 2) := by decide +kernel
theorem dX9_copy_170 : decode cX9_copy 170 = .ok (.iload_n 3, 1) := by decide +kernel
theorem dX9_copy_171 : decode cX9_copy 171 = .ok (.imul, 1) := by decide +kernel
theorem dX9_copy_172 : decode cX9_copy 172 = .ok (.iload 4, 2) := by decide +kernel
theorem dX9_copy_174 : decode cX9_copy 174 = .ok (.iadd, 1) := by decide +kernel
theorem dX9_copy_175 : decode cX9_copy 175 = .ok (.iload 6, 2) := by decide +kernel
theorem dX9_copy_177 : decode cX9_copy 177 = .ok (.iadd, 1) := by decide +kernel
theorem dX9_copy_178 : decode cX9_copy 178 = .ok (.aload_n 0, 1) := by decide +kernel
theorem dX9_copy_179 : decode cX9_copy 179 = .ok (.getfield 80, 3) := by decide +kernel
theorem dX9_copy_182 : decode cX9_copy 182 = .ok (.iload 6, 2) := by decide +kernel
theorem dX9_copy_184 : decode cX9_copy 184 = .ok (.iaload, 1) := by decide +kernel
theorem dX9_copy_185 : decode cX9_copy 185 = .ok (.iastore, 1) := by decide +kernel
theorem dX9_copy_186 : decode cX9_copy 186 = .ok (.iinc 6 1, 3) := by decide +kernel
theorem dX9_copy_189 : decode cX9_copy 189 = .ok (.goto (-32), 3) := by decide +kernel
theorem dX9_copy_192 : decode cX9_copy 192 = .ok (.iconst 1, 1) := by decide +kernel
theorem dX9_copy_193 : decode cX9_copy 193 = .ok (.ireturn, 1) := by decide +kernel
def fX9_copy_L35 (a1 : Int32) (a2 : Int32) (a3 : Int32) (a4 : Int32) (a5 : Int32) (h : fd_H) : Option (Int32 × fd_H) :=
(fX9_meets (1 : Int32) h).bind fun q2 =>
some (q2.1, q2.2)
set_option maxRecDepth 100000 in
set_option maxHeartbeats 4000000 in
theorem sX9_copy_L35 {g : fd_G} {hm : fd_H} {a1 : Int32} {a2 : Int32} {a3 : Int32} {a4 : Int32} {a5 : Int32} {r : Int32 × fd_H} : ∀ (h : fd_H), fX9_copy_L35 a1 a2 a3 a4 a5 h = some r → fd_A g mX9_copy fd_E (fd_rm 2 0 0) (fd_Q g (some (.int r.1)) fd_X0 (fd_mx hm r.2) 0 0) 35 [(0, .ref (g.2.2.2 + 73))] [] fd_X0 (fd_mx hm h) 0 0 := by
  intro h hf
  unfold fX9_copy_L35 at hf
  refine fr_aload_n (pc := 35) dX9_copy_35 0 rfl rfl ?_
  refine fr_iconst (pc := 36) (v := (1 : Int32)) dX9_copy_36 (by decide) ?_
  obtain ⟨q2, hc1, hf⟩ := fd_bi hf
  refine fr_callVi (pc := 37) (av := [.int (1 : Int32)]) dX9_copy_37 yy_X9_meets kw_269 (by decide) rfl rfl rfl rfl (Nat.le_of_ble_eq_true rfl) ⟨Nat.le_of_ble_eq_true rfl, Nat.le_of_ble_eq_true rfl, Nat.zero_le _, Nat.zero_le _⟩ (sX9_meets hc1) ?_
  exact vm_iretW (x := q2.1) (pc := 40) dX9_copy_40 rfl hf
def fX9_copy_L111 (a1 : Int32) (a2 : Int32) (a3 : Int32) (a4 : Int32) (a5 : Int32) (h : fd_H) : Option (Int32 × fd_H) :=
(fX9_meets (2 : Int32) h).bind fun q2 =>
some (q2.1, q2.2)
set_option maxRecDepth 100000 in
set_option maxHeartbeats 4000000 in
theorem sX9_copy_L111 {g : fd_G} {hm : fd_H} {a1 : Int32} {a2 : Int32} {a3 : Int32} {a4 : Int32} {a5 : Int32} {r : Int32 × fd_H} : ∀ (h : fd_H), fX9_copy_L111 a1 a2 a3 a4 a5 h = some r → fd_A g mX9_copy fd_E (fd_rm 2 0 0) (fd_Q g (some (.int r.1)) fd_X0 (fd_mx hm r.2) 0 0) 111 [(0, .ref (g.2.2.2 + 73))] [] fd_X0 (fd_mx hm h) 0 0 := by
  intro h hf
  unfold fX9_copy_L111 at hf
  refine fr_aload_n (pc := 111) dX9_copy_111 0 rfl rfl ?_
  refine fr_iconst (pc := 112) (v := (2 : Int32)) dX9_copy_112 (by decide) ?_
  obtain ⟨q2, hc1, hf⟩ := fd_bi hf
  refine fr_callVi (pc := 113) (av := [.int (2 : Int32)]) dX9_copy_113 yy_X9_meets kw_269 (by decide) rfl rfl rfl rfl (Nat.le_of_ble_eq_true rfl) ⟨Nat.le_of_ble_eq_true rfl, Nat.le_of_ble_eq_true rfl, Nat.zero_le _, Nat.zero_le _⟩ (sX9_meets hc1) ?_
  exact vm_iretW (x := q2.1) (pc := 116) dX9_copy_116 rfl hf
def fX9_copy_L157 (a1 : Int32) (a2 : Int32) (a3 : Int32) (a4 : Int32) (a5 : Int32) : Nat → Int32 → fd_H → Option (Int32 × fd_H)
  | 0 => fun _ _ => none
  | n + 1 => fun v6 h =>
if a5 ≤ v6 then (
some ((1 : Int32), h))
else (
fd_g (fd_in v6 48) (
fd_g (fd_in ((((48 : Int32) * a3) + a4) + v6) 192) (
fd_lt (fd_ui h 96 ((((48 : Int32) * a3) + a4) + v6).toNatClampNeg (h.1 97 v6.toNatClampNeg)) fun h4 =>
fX9_copy_L157 a1 a2 a3 a4 a5 n (v6 + (1 : Int32)) h4)))
set_option maxRecDepth 100000 in
set_option maxHeartbeats 4000000 in
theorem sX9_copy_L157 {g : fd_G} {hm : fd_H} {a1 : Int32} {a2 : Int32} {a3 : Int32} {a4 : Int32} {a5 : Int32} {r : Int32 × fd_H} : ∀ (n : Nat) (v6 : Int32) (h : fd_H), fX9_copy_L157 a1 a2 a3 a4 a5 n v6 h = some r → fd_A g mX9_copy fd_E (fd_rm 2 0 0) (fd_Q g (some (.int r.1)) fd_X0 (fd_mx hm r.2) 0 0) 157 [(0, .ref (g.2.2.2 + 73)), (3, .int a3), (4, .int a4), (5, .int a5), (6, .int v6)] [] fd_X0 (fd_mx hm h) 0 0 := by
  intro n
  induction n with
  | zero =>
    intro _ _ hf
    cases hf
  | succ n ih =>
    intro v6 h hf
    rw [fX9_copy_L157] at hf
    refine fr_iload (pc := 157) dX9_copy_157 4 rfl ?_
    refine fr_iload (pc := 159) dX9_copy_159 3 rfl ?_
    refine fr_icmp_ge (pc := 161) 192 dX9_copy_161 (by decide) (fun c1 => ?_) (fun c1 => ?_)
    · have hf := fd_t c1 hf
      refine fr_iconst (pc := 192) (v := (1 : Int32)) dX9_copy_192 (by decide) ?_
      exact vm_iretW (x := (1 : Int32)) (pc := 193) dX9_copy_193 rfl hf
    · have hf := fd_f c1 hf
      refine fr_aload_n (pc := 164) dX9_copy_164 0 rfl rfl ?_
      refine fr_getR (pc := 165) dX9_copy_165 fl_X9_77 (by decide) rfl rfl ?_
      refine fr_bipush (pc := 168) (v := (48 : Int32)) dX9_copy_168 (by decide) ?_
      refine fr_iload_n (pc := 170) dX9_copy_170 1 rfl rfl ?_
      refine fr_imul (pc := 171) dX9_copy_171 ?_
      refine fr_iload (pc := 172) dX9_copy_172 2 rfl ?_
      refine fr_iadd (pc := 174) dX9_copy_174 ?_
      refine fr_iload (pc := 175) dX9_copy_175 4 rfl ?_
      refine fr_iadd (pc := 177) dX9_copy_177 ?_
      refine fr_aload_n (pc := 178) dX9_copy_178 0 rfl rfl ?_
      refine fr_getR (pc := 179) dX9_copy_179 fl_X9_80 (by decide) rfl rfl ?_
      refine fr_iload (pc := 182) dX9_copy_182 4 rfl ?_
      obtain ⟨g2, hf⟩ := fd_g_e hf
      refine vm_iald (pc := 184) dX9_copy_184 (by decide) (by decide) rfl g2 ?_
      obtain ⟨g3, hf⟩ := fd_g_e hf
      obtain ⟨h4, eh4, hf⟩ := fd_lt_e hf
      refine vm_iast (pc := 185) dX9_copy_185 (by decide) (by decide) rfl g3 eh4 ?_
      refine fr_iinc (pc := 186) (v := (v6 + (1 : Int32))) (lv' := [(6, .int (v6 + (1 : Int32))), (0, .ref (g.2.2.2 + 73)), (3, .int a3), (4, .int a4), (5, .int a5)]) dX9_copy_186 4 rfl rfl (by decide) rfl ?_
      refine fr_goto (pc := 189) 157 dX9_copy_189 (by decide) ?_
      refine fr_loc (lv' := [(0, .ref (g.2.2.2 + 73)), (3, .int a3), (4, .int a4), (5, .int a5), (6, .int (v6 + (1 : Int32)))]) [1, 2, 3, 4, 0] rfl ?_
      exact ih _ _ hf
def fX9_copy_L120 (a1 : Int32) (a2 : Int32) (a3 : Int32) (a4 : Int32) (a5 : Int32) : Nat → Int32 → fd_H → Option (Int32 × fd_H)
  | 0 => fun _ _ => none
  | n + 1 => fun v6 h =>
if a5 ≤ v6 then (
fX9_copy_L157 a1 a2 a3 a4 a5 fd_fu (0 : Int32) h)
else (
fd_g (fd_in ((((48 : Int32) * a1) + a2) + v6) 192) (
fd_g (fd_in v6 48) (
fd_lt (fd_ui h 97 v6.toNatClampNeg (h.1 96 ((((48 : Int32) * a1) + a2) + v6).toNatClampNeg)) fun h4 =>
fX9_copy_L120 a1 a2 a3 a4 a5 n (v6 + (1 : Int32)) h4)))
set_option maxRecDepth 100000 in
set_option maxHeartbeats 4000000 in
theorem sX9_copy_L120 {g : fd_G} {hm : fd_H} {a1 : Int32} {a2 : Int32} {a3 : Int32} {a4 : Int32} {a5 : Int32} {r : Int32 × fd_H} : ∀ (n : Nat) (v6 : Int32) (h : fd_H), fX9_copy_L120 a1 a2 a3 a4 a5 n v6 h = some r → fd_A g mX9_copy fd_E (fd_rm 2 0 0) (fd_Q g (some (.int r.1)) fd_X0 (fd_mx hm r.2) 0 0) 120 [(0, .ref (g.2.2.2 + 73)), (1, .int a1), (2, .int a2), (3, .int a3), (4, .int a4), (5, .int a5), (6, .int v6)] [] fd_X0 (fd_mx hm h) 0 0 := by
  intro n
  induction n with
  | zero =>
    intro _ _ hf
    cases hf
  | succ n ih =>
    intro v6 h hf
    rw [fX9_copy_L120] at hf
    refine fr_iload (pc := 120) dX9_copy_120 6 rfl ?_
    refine fr_iload (pc := 122) dX9_copy_122 5 rfl ?_
    refine fr_icmp_ge (pc := 124) 154 dX9_copy_124 (by decide) (fun c1 => ?_) (fun c1 => ?_)
    · have hf := fd_t c1 hf
      refine fr_iconst (pc := 154) (v := (0 : Int32)) dX9_copy_154 (by decide) ?_
      refine fr_istore (pc := 155) (lv' := [(6, .int (0 : Int32)), (0, .ref (g.2.2.2 + 73)), (1, .int a1), (2, .int a2), (3, .int a3), (4, .int a4), (5, .int a5)]) dX9_copy_155 (by decide) rfl ?_
      refine fr_loc (lv' := [(0, .ref (g.2.2.2 + 73)), (3, .int a3), (4, .int a4), (5, .int a5), (6, .int (0 : Int32))]) [1, 4, 5, 6, 0] rfl ?_
      exact sX9_copy_L157 _  _ _ hf
    · have hf := fd_f c1 hf
      refine fr_aload_n (pc := 127) dX9_copy_127 0 rfl rfl ?_
      refine fr_getR (pc := 128) dX9_copy_128 fl_X9_80 (by decide) rfl rfl ?_
      refine fr_iload (pc := 131) dX9_copy_131 6 rfl ?_
      refine fr_aload_n (pc := 133) dX9_copy_133 0 rfl rfl ?_
      refine fr_getR (pc := 134) dX9_copy_134 fl_X9_77 (by decide) rfl rfl ?_
      refine fr_bipush (pc := 137) (v := (48 : Int32)) dX9_copy_137 (by decide) ?_
      refine fr_iload_n (pc := 139) dX9_copy_139 1 rfl rfl ?_
      refine fr_imul (pc := 140) dX9_copy_140 ?_
      refine fr_iload_n (pc := 141) dX9_copy_141 2 rfl rfl ?_
      refine fr_iadd (pc := 142) dX9_copy_142 ?_
      refine fr_iload (pc := 143) dX9_copy_143 6 rfl ?_
      refine fr_iadd (pc := 145) dX9_copy_145 ?_
      obtain ⟨g2, hf⟩ := fd_g_e hf
      refine vm_iald (pc := 146) dX9_copy_146 (by decide) (by decide) rfl g2 ?_
      obtain ⟨g3, hf⟩ := fd_g_e hf
      obtain ⟨h4, eh4, hf⟩ := fd_lt_e hf
      refine vm_iast (pc := 147) dX9_copy_147 (by decide) (by decide) rfl g3 eh4 ?_
      refine fr_iinc (pc := 148) (v := (v6 + (1 : Int32))) (lv' := [(6, .int (v6 + (1 : Int32))), (0, .ref (g.2.2.2 + 73)), (1, .int a1), (2, .int a2), (3, .int a3), (4, .int a4), (5, .int a5)]) dX9_copy_148 6 rfl rfl (by decide) rfl ?_
      refine fr_goto (pc := 151) 120 dX9_copy_151 (by decide) ?_
      refine fr_loc (lv' := [(0, .ref (g.2.2.2 + 73)), (1, .int a1), (2, .int a2), (3, .int a3), (4, .int a4), (5, .int a5), (6, .int (v6 + (1 : Int32)))]) [1, 2, 3, 4, 5, 6, 0] rfl ?_
      exact ih _ _ hf
def fX9_copy (a1 : Int32) (a2 : Int32) (a3 : Int32) (a4 : Int32) (a5 : Int32) (h : fd_H) : Option (Int32 × fd_H) :=
(fX9_isSheet a1).bind fun r2 =>
if r2 = true then (
(fX9_isSheet a3).bind fun r5 =>
if r5 = true then (
fd_g (fd_in a1 4) (
if (h.1 93 a1.toNatClampNeg) = 0 then (
fX9_copy_L35 a1 a2 a3 a4 a5 h)
else (
fd_g (fd_in a3 4) (
if (h.1 93 a3.toNatClampNeg) = 0 then (
fX9_copy_L35 a1 a2 a3 a4 a5 h)
else (
fd_g (fd_in a1 4) (
fd_g (fd_in a3 4) (
if (h.1 94 a1.toNatClampNeg) = (h.1 94 a3.toNatClampNeg) then (
if a2 < 0 then (
fX9_copy_L111 a1 a2 a3 a4 a5 h)
else (
if a4 < 0 then (
fX9_copy_L111 a1 a2 a3 a4 a5 h)
else (
if a5 < 0 then (
fX9_copy_L111 a1 a2 a3 a4 a5 h)
else (
fd_g (fd_in a1 4) (
if 0 < (lg_cmp (((a2).toInt64) + ((a5).toInt64)) (((h.1 95 a1.toNatClampNeg)).toInt64)) then (
fX9_copy_L111 a1 a2 a3 a4 a5 h)
else (
fd_g (fd_in a3 4) (
if (lg_cmp (((a4).toInt64) + ((a5).toInt64)) (((h.1 95 a3.toNatClampNeg)).toInt64)) ≤ 0 then (
fX9_copy_L120 a1 a2 a3 a4 a5 fd_fu (0 : Int32) h)
else (
fX9_copy_L111 a1 a2 a3 a4 a5 h))))))))
else (
(fX9_meets (4 : Int32) h).bind fun q22 =>
some (q22.1, q22.2)))))))))
else (
some ((-2 : Int32), h)))
else (
some ((-2 : Int32), h))
set_option maxRecDepth 100000 in
set_option maxHeartbeats 4000000 in
theorem sX9_copy {g : fd_G} {hm : fd_H} {a1 : Int32} {a2 : Int32} {a3 : Int32} {a4 : Int32} {a5 : Int32} {r : Int32 × fd_H} {h : fd_H} (hf : fX9_copy a1 a2 a3 a4 a5 h = some r) : fd_S g mX9_copy 2 [.ref (g.2.2.2 + 73), .int a1, .int a2, .int a3, .int a4, .int a5] fd_X0 (fd_mx hm h) (some (.int r.1)) fd_X0 (fd_mx hm r.2) 0 0 := by
  refine fd_S.of (by decide +kernel) (Nat.le_of_ble_eq_true rfl) ?_
  unfold fX9_copy at hf
  refine fr_loc (lv' := [(0, .ref (g.2.2.2 + 73)), (1, .int a1), (2, .int a2), (3, .int a3), (4, .int a4), (5, .int a5)]) [0, 1, 2, 3, 4, 5] rfl ?_
  refine fr_iload_n (pc := 0) dX9_copy_0 1 rfl rfl ?_
  obtain ⟨r2, hc1, hf⟩ := fd_bi hf
  refine fr_callSz (pc := 1) (av := [.int a1]) dX9_copy_1 yy_X9_isSheet kw_265 rfl rfl (Nat.le_of_ble_eq_true rfl) ⟨Nat.le_of_ble_eq_true rfl, Nat.le_of_ble_eq_true rfl, Nat.zero_le _, Nat.zero_le _⟩ (sX9_isSheet hc1) ?_
  refine fr_bz (pc := 4) 14 dX9_copy_4 (by decide) (fun c3 => ?_) (fun c3 => ?_)
  · have hf := fd_f c3 hf
    refine fr_bipush (pc := 14) (v := (-2 : Int32)) dX9_copy_14 (by decide) ?_
    exact vm_iretW (x := (-2 : Int32)) (pc := 16) dX9_copy_16 rfl hf
  · have hf := fd_t c3 hf
    refine fr_iload_n (pc := 7) dX9_copy_7 3 rfl rfl ?_
    obtain ⟨r5, hc4, hf⟩ := fd_bi hf
    refine fr_callSz (pc := 8) (av := [.int a3]) dX9_copy_8 yy_X9_isSheet kw_265 rfl rfl (Nat.le_of_ble_eq_true rfl) ⟨Nat.le_of_ble_eq_true rfl, Nat.le_of_ble_eq_true rfl, Nat.zero_le _, Nat.zero_le _⟩ (sX9_isSheet hc4) ?_
    refine fr_bn (pc := 11) 17 dX9_copy_11 (by decide) (fun c6 => ?_) (fun c6 => ?_)
    · have hf := fd_t c6 hf
      refine fr_aload_n (pc := 17) dX9_copy_17 0 rfl rfl ?_
      refine fr_getR (pc := 18) dX9_copy_18 fl_X9_68 (by decide) rfl rfl ?_
      refine fr_iload_n (pc := 21) dX9_copy_21 1 rfl rfl ?_
      obtain ⟨g7, hf⟩ := fd_g_e hf
      refine vm_zald (pc := 22) dX9_copy_22 (by decide) (by decide) rfl g7 ?_
      refine fr_if_eq (pc := 23) 35 dX9_copy_23 (by decide) (fun c8 => ?_) (fun c8 => ?_)
      · have hf := fd_t c8 hf
        refine fr_loc (lv' := [(0, .ref (g.2.2.2 + 73))]) [0] rfl ?_
        exact sX9_copy_L35  _ hf
      · have hf := fd_f c8 hf
        refine fr_aload_n (pc := 26) dX9_copy_26 0 rfl rfl ?_
        refine fr_getR (pc := 27) dX9_copy_27 fl_X9_68 (by decide) rfl rfl ?_
        refine fr_iload_n (pc := 30) dX9_copy_30 3 rfl rfl ?_
        obtain ⟨g9, hf⟩ := fd_g_e hf
        refine vm_zald (pc := 31) dX9_copy_31 (by decide) (by decide) rfl g9 ?_
        refine fr_if_ne (pc := 32) 41 dX9_copy_32 (by decide) (fun c10 => ?_) (fun c10 => ?_)
        · have hf := fd_f c10 hf
          refine fr_aload_n (pc := 41) dX9_copy_41 0 rfl rfl ?_
          refine fr_getR (pc := 42) dX9_copy_42 fl_X9_71 (by decide) rfl rfl ?_
          refine fr_iload_n (pc := 45) dX9_copy_45 1 rfl rfl ?_
          obtain ⟨g11, hf⟩ := fd_g_e hf
          refine vm_iald (pc := 46) dX9_copy_46 (by decide) (by decide) rfl g11 ?_
          refine fr_aload_n (pc := 47) dX9_copy_47 0 rfl rfl ?_
          refine fr_getR (pc := 48) dX9_copy_48 fl_X9_71 (by decide) rfl rfl ?_
          refine fr_iload_n (pc := 51) dX9_copy_51 3 rfl rfl ?_
          obtain ⟨g12, hf⟩ := fd_g_e hf
          refine vm_iald (pc := 52) dX9_copy_52 (by decide) (by decide) rfl g12 ?_
          refine fr_icmp_eq (pc := 53) 62 dX9_copy_53 (by decide) (fun c13 => ?_) (fun c13 => ?_)
          · have hf := fd_t c13 hf
            refine fr_iload_n (pc := 62) dX9_copy_62 2 rfl rfl ?_
            refine fr_if_lt (pc := 63) 111 dX9_copy_63 (by decide) (fun c14 => ?_) (fun c14 => ?_)
            · have hf := fd_t c14 hf
              refine fr_loc (lv' := [(0, .ref (g.2.2.2 + 73))]) [0] rfl ?_
              exact sX9_copy_L111  _ hf
            · have hf := fd_f c14 hf
              refine fr_iload (pc := 66) dX9_copy_66 4 rfl ?_
              refine fr_if_lt (pc := 68) 111 dX9_copy_68 (by decide) (fun c15 => ?_) (fun c15 => ?_)
              · have hf := fd_t c15 hf
                refine fr_loc (lv' := [(0, .ref (g.2.2.2 + 73))]) [0] rfl ?_
                exact sX9_copy_L111  _ hf
              · have hf := fd_f c15 hf
                refine fr_iload (pc := 71) dX9_copy_71 5 rfl ?_
                refine fr_if_lt (pc := 73) 111 dX9_copy_73 (by decide) (fun c16 => ?_) (fun c16 => ?_)
                · have hf := fd_t c16 hf
                  refine fr_loc (lv' := [(0, .ref (g.2.2.2 + 73))]) [0] rfl ?_
                  exact sX9_copy_L111  _ hf
                · have hf := fd_f c16 hf
                  refine fr_iload_n (pc := 76) dX9_copy_76 2 rfl rfl ?_
                  refine fr_i2l (pc := 77) dX9_copy_77 ?_
                  refine fr_iload (pc := 78) dX9_copy_78 5 rfl ?_
                  refine fr_i2l (pc := 80) dX9_copy_80 ?_
                  refine fr_ladd (pc := 81) dX9_copy_81 ?_
                  refine fr_aload_n (pc := 82) dX9_copy_82 0 rfl rfl ?_
                  refine fr_getR (pc := 83) dX9_copy_83 fl_X9_74 (by decide) rfl rfl ?_
                  refine fr_iload_n (pc := 86) dX9_copy_86 1 rfl rfl ?_
                  obtain ⟨g17, hf⟩ := fd_g_e hf
                  refine vm_iald (pc := 87) dX9_copy_87 (by decide) (by decide) rfl g17 ?_
                  refine fr_i2l (pc := 88) dX9_copy_88 ?_
                  refine fr_lcmp (pc := 89) dX9_copy_89 ?_
                  refine fr_if_gt (pc := 90) 111 dX9_copy_90 (by decide) (fun c18 => ?_) (fun c18 => ?_)
                  · have hf := fd_t c18 hf
                    refine fr_loc (lv' := [(0, .ref (g.2.2.2 + 73))]) [0] rfl ?_
                    exact sX9_copy_L111  _ hf
                  · have hf := fd_f c18 hf
                    refine fr_iload (pc := 93) dX9_copy_93 4 rfl ?_
                    refine fr_i2l (pc := 95) dX9_copy_95 ?_
                    refine fr_iload (pc := 96) dX9_copy_96 5 rfl ?_
                    refine fr_i2l (pc := 98) dX9_copy_98 ?_
                    refine fr_ladd (pc := 99) dX9_copy_99 ?_
                    refine fr_aload_n (pc := 100) dX9_copy_100 0 rfl rfl ?_
                    refine fr_getR (pc := 101) dX9_copy_101 fl_X9_74 (by decide) rfl rfl ?_
                    refine fr_iload_n (pc := 104) dX9_copy_104 3 rfl rfl ?_
                    obtain ⟨g19, hf⟩ := fd_g_e hf
                    refine vm_iald (pc := 105) dX9_copy_105 (by decide) (by decide) rfl g19 ?_
                    refine fr_i2l (pc := 106) dX9_copy_106 ?_
                    refine fr_lcmp (pc := 107) dX9_copy_107 ?_
                    refine fr_if_le (pc := 108) 117 dX9_copy_108 (by decide) (fun c20 => ?_) (fun c20 => ?_)
                    · have hf := fd_t c20 hf
                      refine fr_iconst (pc := 117) (v := (0 : Int32)) dX9_copy_117 (by decide) ?_
                      refine fr_istore (pc := 118) (lv' := [(6, .int (0 : Int32)), (0, .ref (g.2.2.2 + 73)), (1, .int a1), (2, .int a2), (3, .int a3), (4, .int a4), (5, .int a5)]) dX9_copy_118 (by decide) rfl ?_
                      refine fr_loc (lv' := [(0, .ref (g.2.2.2 + 73)), (1, .int a1), (2, .int a2), (3, .int a3), (4, .int a4), (5, .int a5), (6, .int (0 : Int32))]) [1, 2, 3, 4, 5, 6, 0] rfl ?_
                      exact sX9_copy_L120 _  _ _ hf
                    · have hf := fd_f c20 hf
                      refine fr_loc (lv' := [(0, .ref (g.2.2.2 + 73))]) [0] rfl ?_
                      exact sX9_copy_L111  _ hf
          · have hf := fd_f c13 hf
            refine fr_aload_n (pc := 56) dX9_copy_56 0 rfl rfl ?_
            refine fr_iconst (pc := 57) (v := (4 : Int32)) dX9_copy_57 (by decide) ?_
            obtain ⟨q22, hc21, hf⟩ := fd_bi hf
            refine fr_callVi (pc := 58) (av := [.int (4 : Int32)]) dX9_copy_58 yy_X9_meets kw_269 (by decide) rfl rfl rfl rfl (Nat.le_of_ble_eq_true rfl) ⟨Nat.le_of_ble_eq_true rfl, Nat.le_of_ble_eq_true rfl, Nat.zero_le _, Nat.zero_le _⟩ (sX9_meets hc21) ?_
            exact vm_iretW (x := q22.1) (pc := 61) dX9_copy_61 rfl hf
        · have hf := fd_t c10 hf
          refine fr_loc (lv' := [(0, .ref (g.2.2.2 + 73))]) [0] rfl ?_
          exact sX9_copy_L35  _ hf
    · have hf := fd_f c6 hf
      refine fr_bipush (pc := 14) (v := (-2 : Int32)) dX9_copy_14 (by decide) ?_
      exact vm_iretW (x := (-2 : Int32)) (pc := 16) dX9_copy_16 rfl hf
theorem dX7_settle_0 : decode cX7_settle 0 = .ok (.aload_n 0, 1) := by decide +kernel
theorem dX7_settle_1 : decode cX7_settle 1 = .ok (.aload_n 0, 1) := by decide +kernel
theorem dX7_settle_2 : decode cX7_settle 2 = .ok (.getfield 21, 3) := by decide +kernel
theorem dX7_settle_5 : decode cX7_settle 5 = .ok (.iconst 0, 1) := by decide +kernel
theorem dX7_settle_6 : decode cX7_settle 6 = .ok (.iconst (-1), 1) := by decide +kernel
theorem dX7_settle_7 : decode cX7_settle 7 = .ok (.invokevirtual 83, 3) := by decide +kernel
theorem dX7_settle_10 : decode cX7_settle 10 = .ok (.putfield 47, 3) := by decide +kernel
theorem dX7_settle_13 : decode cX7_settle 13 = .ok (.iconst 0, 1) := by decide +kernel
theorem dX7_settle_14 : decode cX7_settle 14 = .ok (.istore_n 1, 1) := by decide +kernel
theorem dX7_settle_15 : decode cX7_settle 15 = .ok (.iload_n 1, 1) := by decide +kernel
theorem dX7_settle_16 : decode cX7_settle 16 = .ok (.aload_n 0, 1) := by decide +kernel
theorem dX7_settle_17 : decode cX7_settle 17 = .ok (.getfield 12, 3) := by decide +kernel
theorem dX7_settle_20 : decode cX7_settle 20 = .ok (.getfield 87, 3) := by decide +kernel
theorem dX7_settle_23 : decode cX7_settle 23 = .ok (.if_icmp .ge 76, 3) := by decide +kernel
theorem dX7_settle_26 : decode cX7_settle 26 = .ok (.aload_n 0, 1) := by decide +kernel
theorem dX7_settle_27 : decode cX7_settle 27 = .ok (.getfield 54, 3) := by decide +kernel
theorem dX7_settle_30 : decode cX7_settle 30 = .ok (.iload_n 1, 1) := by decide +kernel
theorem dX7_settle_31 : decode cX7_settle 31 = .ok (.aload_n 0, 1) := by decide +kernel
theorem dX7_settle_32 : decode cX7_settle 32 = .ok (.getfield 25, 3) := by decide +kernel
theorem dX7_settle_35 : decode cX7_settle 35 = .ok (.iload_n 1, 1) := by decide +kernel
theorem dX7_settle_36 : decode cX7_settle 36 = .ok (.iconst (-1), 1) := by decide +kernel
theorem dX7_settle_37 : decode cX7_settle 37 = .ok (.invokevirtual 83, 3) := by decide +kernel
theorem dX7_settle_40 : decode cX7_settle 40 = .ok (.invokevirtual 90, 3) := by decide +kernel
theorem dX7_settle_43 : decode cX7_settle 43 = .ok (.aload_n 0, 1) := by decide +kernel
theorem dX7_settle_44 : decode cX7_settle 44 = .ok (.getfield 58, 3) := by decide +kernel
theorem dX7_settle_47 : decode cX7_settle 47 = .ok (.iload_n 1, 1) := by decide +kernel
theorem dX7_settle_48 : decode cX7_settle 48 = .ok (.aload_n 0, 1) := by decide +kernel
theorem dX7_settle_49 : decode cX7_settle 49 = .ok (.getfield 28, 3) := by decide +kernel
theorem dX7_settle_52 : decode cX7_settle 52 = .ok (.iload_n 1, 1) := by decide +kernel
theorem dX7_settle_53 : decode cX7_settle 53 = .ok (.iconst (-1), 1) := by decide +kernel
theorem dX7_settle_54 : decode cX7_settle 54 = .ok (.invokevirtual 83, 3) := by decide +kernel
theorem dX7_settle_57 : decode cX7_settle 57 = .ok (.aload_n 0, 1) := by decide +kernel
theorem dX7_settle_58 : decode cX7_settle 58 = .ok (.getfield 40, 3) := by decide +kernel
theorem dX7_settle_61 : decode cX7_settle 61 = .ok (.invokestatic 93, 3) := by decide +kernel
theorem dX7_settle_64 : decode cX7_settle 64 = .ok (.land, 1) := by decide +kernel
theorem dX7_settle_65 : decode cX7_settle 65 = .ok (.invokevirtual 90, 3) := by decide +kernel
theorem dX7_settle_68 : decode cX7_settle 68 = .ok (.aload_n 0, 1) := by decide +kernel
theorem dX7_settle_69 : decode cX7_settle 69 = .ok (.getfield 61, 3) := by decide +kernel
theorem dX7_settle_72 : decode cX7_settle 72 = .ok (.iload_n 1, 1) := by decide +kernel
theorem dX7_settle_73 : decode cX7_settle 73 = .ok (.aload_n 0, 1) := by decide +kernel
theorem dX7_settle_74 : decode cX7_settle 74 = .ok (.iload_n 1, 1) := by decide +kernel
theorem dX7_settle_75 : decode cX7_settle 75 = .ok (.aload_n 0, 1) := by decide +kernel
theorem dX7_settle_76 : decode cX7_settle 76 = .ok (.getfield 47, 3) := by decide +kernel
theorem dX7_settle_79 : decode cX7_settle 79 = .ok (.aload_n 0, 1) := by decide +kernel
theorem dX7_settle_80 : decode cX7_settle 80 = .ok (.getfield 58, 3) := by decide +kernel
theorem dX7_settle_83 : decode cX7_settle 83 = .ok (.iload_n 1, 1) := by decide +kernel
theorem dX7_settle_84 : decode cX7_settle 84 = .ok (.invokevirtual 97, 3) := by decide +kernel
theorem dX7_settle_87 : decode cX7_settle 87 = .ok (.invokevirtual 99, 3) := by decide +kernel
theorem dX7_settle_90 : decode cX7_settle 90 = .ok (.invokevirtual 90, 3) := by decide +kernel
theorem dX7_settle_93 : decode cX7_settle 93 = .ok (.iinc 1 1, 3) := by decide +kernel
theorem dX7_settle_96 : decode cX7_settle 96 = .ok (.goto (-81), 3) := by decide +kernel
theorem dX7_settle_99 : decode cX7_settle 99 = .ok (.return_, 1) := by decide +kernel
def fX7_settle_L15  : Nat → Int32 → fd_H → Option (fd_H)
  | 0 => fun _ _ => none
  | n + 1 => fun v1 h =>
if (h.1 12 3) ≤ v1 then (
some h)
else (
(fX1_nightsAt 26 v1 (-1 : Int32) h).bind fun r3 =>
(fX5_set 42 v1 r3 h).bind fun h5 =>
(fX1_nightsAt 33 v1 (-1 : Int32) h5).bind fun r7 =>
(fX8_bitsBelow (h5.1 11 5)).bind fun r9 =>
(fX5_set 44 v1 (r7 &&& r9) h5).bind fun h11 =>
(fX5_at 44 v1 h11).bind fun r13 =>
(fX7_frostNights v1 (h11.2 11 7) r13 h11).bind fun r15 =>
(fX5_set 46 v1 r15 h11).bind fun h17 =>
fX7_settle_L15  n (v1 + (1 : Int32)) h17)
set_option maxRecDepth 100000 in
set_option maxHeartbeats 4000000 in
theorem sX7_settle_L15 {g : fd_G} {hm : fd_H} {r : fd_H} : ∀ (n : Nat) (v1 : Int32) (h : fd_H), fX7_settle_L15  n v1 h = some r → fd_A g mX7_settle fd_E (fd_rm 3 0 0) (fd_Q g none fd_X0 (fd_mx r hm) 0 0) 15 [(0, .ref (g.2.2.2 + 11)), (1, .int v1)] [] fd_X0 (fd_mx h hm) 0 0 := by
  intro n
  induction n with
  | zero =>
    intro _ _ hf
    cases hf
  | succ n ih =>
    intro v1 h hf
    rw [fX7_settle_L15] at hf
    refine fr_iload_n (pc := 15) dX7_settle_15 1 rfl rfl ?_
    refine fr_aload_n (pc := 16) dX7_settle_16 0 rfl rfl ?_
    refine fr_getR (pc := 17) dX7_settle_17 fl_X7_12 (by decide) rfl rfl ?_
    refine vx_getI (pc := 20) dX7_settle_20 fl_X7_87 (by decide) (by decide) rfl rfl ?_
    refine fr_icmp_ge (pc := 23) 99 dX7_settle_23 (by decide) (fun c1 => ?_) (fun c1 => ?_)
    · have hf := fd_t c1 hf
      exact vx_vretW (pc := 99) dX7_settle_99 rfl hf
    · have hf := fd_f c1 hf
      refine fr_aload_n (pc := 26) dX7_settle_26 0 rfl rfl ?_
      refine fr_getR (pc := 27) dX7_settle_27 fl_X7_54 (by decide) rfl rfl ?_
      refine fr_iload_n (pc := 30) dX7_settle_30 1 rfl rfl ?_
      refine fr_aload_n (pc := 31) dX7_settle_31 0 rfl rfl ?_
      refine fr_getR (pc := 32) dX7_settle_32 fl_X7_25 (by decide) rfl rfl ?_
      refine fr_iload_n (pc := 35) dX7_settle_35 1 rfl rfl ?_
      refine fr_iconst (pc := 36) (v := (-1 : Int32)) dX7_settle_36 (by decide) ?_
      obtain ⟨r3, hc2, hf⟩ := fd_bi hf
      refine fr_callVl (pc := 37) (av := [.int v1, .int (-1 : Int32)]) dX7_settle_37 yy_X1_nightsAt kw_284 (by decide) rfl rfl rfl rfl (Nat.le_of_ble_eq_true rfl) ⟨Nat.le_of_ble_eq_true rfl, Nat.le_of_ble_eq_true rfl, Nat.zero_le _, Nat.zero_le _⟩ (sX1_nightsAt is_26 hc2) ?_
      obtain ⟨h5, hc4, hf⟩ := fd_bi hf
      refine fr_callVv (pc := 40) (av := [.int v1, .long r3]) dX7_settle_40 yy_X5_set kw_290 (by decide) rfl rfl rfl rfl (Nat.le_of_ble_eq_true rfl) ⟨Nat.le_of_ble_eq_true rfl, Nat.le_of_ble_eq_true rfl, Nat.zero_le _, Nat.zero_le _⟩ (sX5_set is_42 hc4) ?_
      refine fr_aload_n (pc := 43) dX7_settle_43 0 rfl rfl ?_
      refine fr_getR (pc := 44) dX7_settle_44 fl_X7_58 (by decide) rfl rfl ?_
      refine fr_iload_n (pc := 47) dX7_settle_47 1 rfl rfl ?_
      refine fr_aload_n (pc := 48) dX7_settle_48 0 rfl rfl ?_
      refine fr_getR (pc := 49) dX7_settle_49 fl_X7_28 (by decide) rfl rfl ?_
      refine fr_iload_n (pc := 52) dX7_settle_52 1 rfl rfl ?_
      refine fr_iconst (pc := 53) (v := (-1 : Int32)) dX7_settle_53 (by decide) ?_
      obtain ⟨r7, hc6, hf⟩ := fd_bi hf
      refine fr_callVl (pc := 54) (av := [.int v1, .int (-1 : Int32)]) dX7_settle_54 yy_X1_nightsAt kw_284 (by decide) rfl rfl rfl rfl (Nat.le_of_ble_eq_true rfl) ⟨Nat.le_of_ble_eq_true rfl, Nat.le_of_ble_eq_true rfl, Nat.zero_le _, Nat.zero_le _⟩ (sX1_nightsAt is_33 hc6) ?_
      refine fr_aload_n (pc := 57) dX7_settle_57 0 rfl rfl ?_
      refine vx_getI (pc := 58) dX7_settle_58 fl_X7_40 (by decide) (by decide) rfl rfl ?_
      obtain ⟨r9, hc8, hf⟩ := fd_bi hf
      refine fr_callSNl (pc := 61) (av := [.int (h5.1 11 5)]) dX7_settle_61 yy_X8_bitsBelow (List.mem_of_getElem? (i := 9) rfl) rfl rfl (Nat.le_of_ble_eq_true rfl) ⟨Nat.le_of_ble_eq_true rfl, Nat.le_of_ble_eq_true rfl, Nat.zero_le _, Nat.zero_le _⟩ (sX8_bitsBelow hc8) ?_
      refine fr_land (pc := 64) dX7_settle_64 ?_
      obtain ⟨h11, hc10, hf⟩ := fd_bi hf
      refine fr_callVv (pc := 65) (av := [.int v1, .long (r7 &&& r9)]) dX7_settle_65 yy_X5_set kw_290 (by decide) rfl rfl rfl rfl (Nat.le_of_ble_eq_true rfl) ⟨Nat.le_of_ble_eq_true rfl, Nat.le_of_ble_eq_true rfl, Nat.zero_le _, Nat.zero_le _⟩ (sX5_set is_44 hc10) ?_
      refine fr_aload_n (pc := 68) dX7_settle_68 0 rfl rfl ?_
      refine fr_getR (pc := 69) dX7_settle_69 fl_X7_61 (by decide) rfl rfl ?_
      refine fr_iload_n (pc := 72) dX7_settle_72 1 rfl rfl ?_
      refine fr_aload_n (pc := 73) dX7_settle_73 0 rfl rfl ?_
      refine fr_iload_n (pc := 74) dX7_settle_74 1 rfl rfl ?_
      refine fr_aload_n (pc := 75) dX7_settle_75 0 rfl rfl ?_
      refine vx_getL (pc := 76) dX7_settle_76 fl_X7_47 (by decide) (by decide) rfl rfl ?_
      refine fr_aload_n (pc := 79) dX7_settle_79 0 rfl rfl ?_
      refine fr_getR (pc := 80) dX7_settle_80 fl_X7_58 (by decide) rfl rfl ?_
      refine fr_iload_n (pc := 83) dX7_settle_83 1 rfl rfl ?_
      obtain ⟨r13, hc12, hf⟩ := fd_bi hf
      refine fr_callVl (pc := 84) (av := [.int v1]) dX7_settle_84 yy_X5_at kw_182 (by decide) rfl rfl rfl rfl (Nat.le_of_ble_eq_true rfl) ⟨Nat.le_of_ble_eq_true rfl, Nat.le_of_ble_eq_true rfl, Nat.zero_le _, Nat.zero_le _⟩ (sX5_at is_44 hc12) ?_
      obtain ⟨r15, hc14, hf⟩ := fd_bi hf
      refine fr_callVl (pc := 87) (av := [.int v1, .long (h11.2 11 7), .long r13]) dX7_settle_87 yy_X7_frostNights kw_297 (by decide) rfl rfl rfl rfl (Nat.le_of_ble_eq_true rfl) ⟨Nat.le_of_ble_eq_true rfl, Nat.le_of_ble_eq_true rfl, Nat.zero_le _, Nat.zero_le _⟩ (sX7_frostNights hc14) ?_
      obtain ⟨h17, hc16, hf⟩ := fd_bi hf
      refine fr_callVv (pc := 90) (av := [.int v1, .long r15]) dX7_settle_90 yy_X5_set kw_290 (by decide) rfl rfl rfl rfl (Nat.le_of_ble_eq_true rfl) ⟨Nat.le_of_ble_eq_true rfl, Nat.le_of_ble_eq_true rfl, Nat.zero_le _, Nat.zero_le _⟩ (sX5_set is_46 hc16) ?_
      refine fr_iinc (pc := 93) (v := (v1 + (1 : Int32))) (lv' := [(1, .int (v1 + (1 : Int32))), (0, .ref (g.2.2.2 + 11))]) dX7_settle_93 1 rfl rfl (by decide) rfl ?_
      refine fr_goto (pc := 96) 15 dX7_settle_96 (by decide) ?_
      refine fr_loc (lv' := [(0, .ref (g.2.2.2 + 11)), (1, .int (v1 + (1 : Int32)))]) [1, 0] rfl ?_
      exact ih _ _ hf
def fX7_settle  (h : fd_H) : Option (fd_H) :=
(fX1_nightsAt 19 (0 : Int32) (-1 : Int32) h).bind fun r2 =>
fd_lt (fd_ul h 11 7 r2) fun h3 =>
fX7_settle_L15  fd_fu (0 : Int32) h3
set_option maxRecDepth 100000 in
set_option maxHeartbeats 4000000 in
theorem sX7_settle {g : fd_G} {hm : fd_H} {r : fd_H} {h : fd_H} (hf : fX7_settle  h = some r) : fd_S g mX7_settle 3 [.ref (g.2.2.2 + 11)] fd_X0 (fd_mx h hm) none fd_X0 (fd_mx r hm) 0 0 := by
  refine fd_S.of (by decide +kernel) (Nat.le_of_ble_eq_true rfl) ?_
  unfold fX7_settle at hf
  refine fr_loc (lv' := [(0, .ref (g.2.2.2 + 11))]) [0] rfl ?_
  refine fr_aload_n (pc := 0) dX7_settle_0 0 rfl rfl ?_
  refine fr_aload_n (pc := 1) dX7_settle_1 0 rfl rfl ?_
  refine fr_getR (pc := 2) dX7_settle_2 fl_X7_21 (by decide) rfl rfl ?_
  refine fr_iconst (pc := 5) (v := (0 : Int32)) dX7_settle_5 (by decide) ?_
  refine fr_iconst (pc := 6) (v := (-1 : Int32)) dX7_settle_6 (by decide) ?_
  obtain ⟨r2, hc1, hf⟩ := fd_bi hf
  refine fr_callVl (pc := 7) (av := [.int (0 : Int32), .int (-1 : Int32)]) dX7_settle_7 yy_X1_nightsAt kw_284 (by decide) rfl rfl rfl rfl (Nat.le_of_ble_eq_true rfl) ⟨Nat.le_of_ble_eq_true rfl, Nat.le_of_ble_eq_true rfl, Nat.zero_le _, Nat.zero_le _⟩ (sX1_nightsAt is_19 hc1) ?_
  obtain ⟨h3, eh3, hf⟩ := fd_lt_e hf
  refine vx_putL (pc := 10) dX7_settle_10 fl_X7_47 ft_X7_7 (by decide) (by decide) rfl rfl eh3 ?_
  refine fr_iconst (pc := 13) (v := (0 : Int32)) dX7_settle_13 (by decide) ?_
  refine fr_istore_n (pc := 14) (lv' := [(1, .int (0 : Int32)), (0, .ref (g.2.2.2 + 11))]) dX7_settle_14 rfl (by decide) rfl ?_
  refine fr_loc (lv' := [(0, .ref (g.2.2.2 + 11)), (1, .int (0 : Int32))]) [1, 0] rfl ?_
  exact sX7_settle_L15 _  _ _ hf
theorem dX7_frostsWithout_0 : decode cX7_frostsWithout 0 = .ok (.aload_n 0, 1) := by decide +kernel
theorem dX7_frostsWithout_1 : decode cX7_frostsWithout 1 = .ok (.iload_n 2, 1) := by decide +kernel
theorem dX7_frostsWithout_2 : decode cX7_frostsWithout 2 = .ok (.aload_n 0, 1) := by decide +kernel
theorem dX7_frostsWithout_3 : decode cX7_frostsWithout 3 = .ok (.getfield 47, 3) := by decide +kernel
theorem dX7_frostsWithout_6 : decode cX7_frostsWithout 6 = .ok (.aload_n 0, 1) := by decide +kernel
theorem dX7_frostsWithout_7 : decode cX7_frostsWithout 7 = .ok (.getfield 28, 3) := by decide +kernel
theorem dX7_frostsWithout_10 : decode cX7_frostsWithout 10 = .ok (.iload_n 2, 1) := by decide +kernel
theorem dX7_frostsWithout_11 : decode cX7_frostsWithout 11 = .ok (.iload_n 1, 1) := by decide +kernel
theorem dX7_frostsWithout_12 : decode cX7_frostsWithout 12 = .ok (.invokevirtual 83, 3) := by decide +kernel
theorem dX7_frostsWithout_15 : decode cX7_frostsWithout 15 = .ok (.aload_n 0, 1) := by decide +kernel
theorem dX7_frostsWithout_16 : decode cX7_frostsWithout 16 = .ok (.getfield 40, 3) := by decide +kernel
theorem dX7_frostsWithout_19 : decode cX7_frostsWithout 19 = .ok (.invokestatic 93, 3) := by decide +kernel
theorem dX7_frostsWithout_22 : decode cX7_frostsWithout 22 = .ok (.land, 1) := by decide +kernel
theorem dX7_frostsWithout_23 : decode cX7_frostsWithout 23 = .ok (.invokevirtual 99, 3) := by decide +kernel
theorem dX7_frostsWithout_26 : decode cX7_frostsWithout 26 = .ok (.lreturn, 1) := by decide +kernel
def fX7_frostsWithout (a1 : Int32) (a2 : Int32) (h : fd_H) : Option (Int64) :=
(fX1_nightsAt 33 a2 a1 h).bind fun r2 =>
(fX8_bitsBelow (h.1 11 5)).bind fun r4 =>
(fX7_frostNights a2 (h.2 11 7) (r2 &&& r4) h).bind fun r6 =>
some (r6)
set_option maxRecDepth 100000 in
set_option maxHeartbeats 4000000 in
theorem sX7_frostsWithout {g : fd_G} {hm : fd_H} {a1 : Int32} {a2 : Int32} {h : fd_H} {r : Int64} (hf : fX7_frostsWithout a1 a2 h = some r) : fd_S g mX7_frostsWithout 3 [.ref (g.2.2.2 + 11), .int a1, .int a2] fd_X0 (fd_mx h hm) (some (.long r)) fd_X0 (fd_mx h hm) 0 0 := by
  refine fd_S.of (by decide +kernel) (Nat.le_of_ble_eq_true rfl) ?_
  unfold fX7_frostsWithout at hf
  refine fr_loc (lv' := [(0, .ref (g.2.2.2 + 11)), (1, .int a1), (2, .int a2)]) [0, 1, 2] rfl ?_
  refine fr_aload_n (pc := 0) dX7_frostsWithout_0 0 rfl rfl ?_
  refine fr_iload_n (pc := 1) dX7_frostsWithout_1 2 rfl rfl ?_
  refine fr_aload_n (pc := 2) dX7_frostsWithout_2 0 rfl rfl ?_
  refine vx_getL (pc := 3) dX7_frostsWithout_3 fl_X7_47 (by decide) (by decide) rfl rfl ?_
  refine fr_aload_n (pc := 6) dX7_frostsWithout_6 0 rfl rfl ?_
  refine fr_getR (pc := 7) dX7_frostsWithout_7 fl_X7_28 (by decide) rfl rfl ?_
  refine fr_iload_n (pc := 10) dX7_frostsWithout_10 2 rfl rfl ?_
  refine fr_iload_n (pc := 11) dX7_frostsWithout_11 1 rfl rfl ?_
  obtain ⟨r2, hc1, hf⟩ := fd_bi hf
  refine fr_callVl (pc := 12) (av := [.int a2, .int a1]) dX7_frostsWithout_12 yy_X1_nightsAt kw_284 (by decide) rfl rfl rfl rfl (Nat.le_of_ble_eq_true rfl) ⟨Nat.le_of_ble_eq_true rfl, Nat.le_of_ble_eq_true rfl, Nat.zero_le _, Nat.zero_le _⟩ (sX1_nightsAt is_33 hc1) ?_
  refine fr_aload_n (pc := 15) dX7_frostsWithout_15 0 rfl rfl ?_
  refine vx_getI (pc := 16) dX7_frostsWithout_16 fl_X7_40 (by decide) (by decide) rfl rfl ?_
  obtain ⟨r4, hc3, hf⟩ := fd_bi hf
  refine fr_callSNl (pc := 19) (av := [.int (h.1 11 5)]) dX7_frostsWithout_19 yy_X8_bitsBelow (List.mem_of_getElem? (i := 9) rfl) rfl rfl (Nat.le_of_ble_eq_true rfl) ⟨Nat.le_of_ble_eq_true rfl, Nat.le_of_ble_eq_true rfl, Nat.zero_le _, Nat.zero_le _⟩ (sX8_bitsBelow hc3) ?_
  refine fr_land (pc := 22) dX7_frostsWithout_22 ?_
  obtain ⟨r6, hc5, hf⟩ := fd_bi hf
  refine fr_callVl (pc := 23) (av := [.int a2, .long (h.2 11 7), .long (r2 &&& r4)]) dX7_frostsWithout_23 yy_X7_frostNights kw_297 (by decide) rfl rfl rfl rfl (Nat.le_of_ble_eq_true rfl) ⟨Nat.le_of_ble_eq_true rfl, Nat.le_of_ble_eq_true rfl, Nat.zero_le _, Nat.zero_le _⟩ (sX7_frostNights hc5) ?_
  exact fr_lretP (x := r6) (pc := 26) dX7_frostsWithout_26 rfl hf
theorem dX8_first_0 : decode cX8_first 0 = .ok (.aload_n 0, 1) := by decide +kernel
theorem dX8_first_1 : decode cX8_first 1 = .ok (.getfield 29, 3) := by decide +kernel
theorem dX8_first_4 : decode cX8_first 4 = .ok (.iload_n 1, 1) := by decide +kernel
theorem dX8_first_5 : decode cX8_first 5 = .ok (.invokevirtual 80, 3) := by decide +kernel
theorem dX8_first_8 : decode cX8_first 8 = .ok (.ifCond .eq 17, 3) := by decide +kernel
theorem dX8_first_11 : decode cX8_first 11 = .ok (.aload_n 0, 1) := by decide +kernel
theorem dX8_first_12 : decode cX8_first 12 = .ok (.getfield 21, 3) := by decide +kernel
theorem dX8_first_15 : decode cX8_first 15 = .ok (.getfield 144, 3) := by decide +kernel
theorem dX8_first_18 : decode cX8_first 18 = .ok (.iload_n 1, 1) := by decide +kernel
theorem dX8_first_19 : decode cX8_first 19 = .ok (.invokevirtual 147, 3) := by decide +kernel
theorem dX8_first_22 : decode cX8_first 22 = .ok (.goto 5, 3) := by decide +kernel
theorem dX8_first_25 : decode cX8_first 25 = .ok (.bipush (-2), 2) := by decide +kernel
theorem dX8_first_27 : decode cX8_first 27 = .ok (.ireturn, 1) := by decide +kernel
def fX8_first (a1 : Int32) (h : fd_H) : Option (Int32) :=
(fX2_has a1 h).bind fun r2 =>
if r2 = true then (
(fX5_firstOf 46 a1 h).bind fun r5 =>
some (r5))
else (
some ((-2 : Int32)))
set_option maxRecDepth 100000 in
set_option maxHeartbeats 4000000 in
theorem sX8_first {g : fd_G} {hm : fd_H} {a1 : Int32} {h : fd_H} {r : Int32} (hf : fX8_first a1 h = some r) : fd_S g mX8_first 3 [.ref (g.2.2.2 + 0), .int a1] fd_X0 (fd_mx h hm) (some (.int r)) fd_X0 (fd_mx h hm) 0 0 := by
  refine fd_S.of (by decide +kernel) (Nat.le_of_ble_eq_true rfl) ?_
  unfold fX8_first at hf
  refine fr_loc (lv' := [(0, .ref (g.2.2.2 + 0)), (1, .int a1)]) [0, 1] rfl ?_
  refine fr_aload_n (pc := 0) dX8_first_0 0 rfl rfl ?_
  refine fr_getR (pc := 1) dX8_first_1 fl_X8_29 (by decide) rfl rfl ?_
  refine fr_iload_n (pc := 4) dX8_first_4 1 rfl rfl ?_
  obtain ⟨r2, hc1, hf⟩ := fd_bi hf
  refine fr_callVz (pc := 5) (av := [.int a1]) dX8_first_5 yy_X2_has kw_108 (by decide) rfl rfl rfl rfl (Nat.le_of_ble_eq_true rfl) ⟨Nat.le_of_ble_eq_true rfl, Nat.le_of_ble_eq_true rfl, Nat.zero_le _, Nat.zero_le _⟩ (sX2_has hc1) ?_
  refine fr_bz (pc := 8) 25 dX8_first_8 (by decide) (fun c3 => ?_) (fun c3 => ?_)
  · have hf := fd_f c3 hf
    refine fr_bipush (pc := 25) (v := (-2 : Int32)) dX8_first_25 (by decide) ?_
    exact fr_iretP (x := (-2 : Int32)) (pc := 27) dX8_first_27 rfl hf
  · have hf := fd_t c3 hf
    refine fr_aload_n (pc := 11) dX8_first_11 0 rfl rfl ?_
    refine fr_getR (pc := 12) dX8_first_12 fl_X8_21 (by decide) rfl rfl ?_
    refine fr_getR (pc := 15) dX8_first_15 fl_X8_144 (by decide) rfl rfl ?_
    refine fr_iload_n (pc := 18) dX8_first_18 1 rfl rfl ?_
    obtain ⟨r5, hc4, hf⟩ := fd_bi hf
    refine fr_callVi (pc := 19) (av := [.int a1]) dX8_first_19 yy_X5_firstOf kw_301 (by decide) rfl rfl rfl rfl (Nat.le_of_ble_eq_true rfl) ⟨Nat.le_of_ble_eq_true rfl, Nat.le_of_ble_eq_true rfl, Nat.zero_le _, Nat.zero_le _⟩ (sX5_firstOf is_46 hc4) ?_
    refine fr_goto (pc := 22) 27 dX8_first_22 (by decide) ?_
    exact fr_iretP (x := r5) (pc := 27) dX8_first_27 rfl hf
theorem dX8_stands_0 : decode cX8_stands 0 = .ok (.iload_n 1, 1) := by decide +kernel
theorem dX8_stands_1 : decode cX8_stands 1 = .ok (.aload_n 0, 1) := by decide +kernel
theorem dX8_stands_2 : decode cX8_stands 2 = .ok (.getfield 33, 3) := by decide +kernel
theorem dX8_stands_5 : decode cX8_stands 5 = .ok (.getfield 104, 3) := by decide +kernel
theorem dX8_stands_8 : decode cX8_stands 8 = .ok (.invokestatic 62, 3) := by decide +kernel
theorem dX8_stands_11 : decode cX8_stands 11 = .ok (.ifCond .eq 12, 3) := by decide +kernel
theorem dX8_stands_14 : decode cX8_stands 14 = .ok (.iload_n 2, 1) := by decide +kernel
theorem dX8_stands_15 : decode cX8_stands 15 = .ok (.bipush 40, 2) := by decide +kernel
theorem dX8_stands_17 : decode cX8_stands 17 = .ok (.invokestatic 62, 3) := by decide +kernel
theorem dX8_stands_20 : decode cX8_stands 20 = .ok (.ifCond .ne 6, 3) := by decide +kernel
theorem dX8_stands_23 : decode cX8_stands 23 = .ok (.bipush (-2), 2) := by decide +kernel
theorem dX8_stands_25 : decode cX8_stands 25 = .ok (.ireturn, 1) := by decide +kernel
theorem dX8_stands_26 : decode cX8_stands 26 = .ok (.aload_n 0, 1) := by decide +kernel
theorem dX8_stands_27 : decode cX8_stands 27 = .ok (.iload_n 1, 1) := by decide +kernel
theorem dX8_stands_28 : decode cX8_stands 28 = .ok (.iload_n 2, 1) := by decide +kernel
theorem dX8_stands_29 : decode cX8_stands 29 = .ok (.aload_n 0, 1) := by decide +kernel
theorem dX8_stands_30 : decode cX8_stands 30 = .ok (.getfield 21, 3) := by decide +kernel
theorem dX8_stands_33 : decode cX8_stands 33 = .ok (.getfield 144, 3) := by decide +kernel
theorem dX8_stands_36 : decode cX8_stands 36 = .ok (.invokevirtual 154, 3) := by decide +kernel
theorem dX8_stands_39 : decode cX8_stands 39 = .ok (.ifCond .eq 7, 3) := by decide +kernel
theorem dX8_stands_42 : decode cX8_stands 42 = .ok (.iconst 1, 1) := by decide +kernel
theorem dX8_stands_43 : decode cX8_stands 43 = .ok (.goto 4, 3) := by decide +kernel
theorem dX8_stands_46 : decode cX8_stands 46 = .ok (.iconst 0, 1) := by decide +kernel
theorem dX8_stands_47 : decode cX8_stands 47 = .ok (.ireturn, 1) := by decide +kernel
def fX8_stands (a1 : Int32) (a2 : Int32) (h : fd_H) : Option (Int32) :=
(fX8_isBelow a1 (h.1 48 1)).bind fun r2 =>
if r2 = true then (
(fX8_isBelow a2 (40 : Int32)).bind fun r5 =>
if r5 = true then (
(fX8_isStanding a1 a2 46 h).bind fun r8 =>
if r8 = true then (
some ((1 : Int32)))
else (
some ((0 : Int32))))
else (
some ((-2 : Int32))))
else (
some ((-2 : Int32)))
set_option maxRecDepth 100000 in
set_option maxHeartbeats 4000000 in
theorem sX8_stands {g : fd_G} {hm : fd_H} {a1 : Int32} {a2 : Int32} {h : fd_H} {r : Int32} (hf : fX8_stands a1 a2 h = some r) : fd_S g mX8_stands 3 [.ref (g.2.2.2 + 0), .int a1, .int a2] fd_X0 (fd_mx h hm) (some (.int r)) fd_X0 (fd_mx h hm) 0 0 := by
  refine fd_S.of (by decide +kernel) (Nat.le_of_ble_eq_true rfl) ?_
  unfold fX8_stands at hf
  refine fr_loc (lv' := [(0, .ref (g.2.2.2 + 0)), (1, .int a1), (2, .int a2)]) [0, 1, 2] rfl ?_
  refine fr_iload_n (pc := 0) dX8_stands_0 1 rfl rfl ?_
  refine fr_aload_n (pc := 1) dX8_stands_1 0 rfl rfl ?_
  refine fr_getR (pc := 2) dX8_stands_2 fl_X8_33 (by decide) rfl rfl ?_
  refine vx_getI (pc := 5) dX8_stands_5 fl_X8_104 (by decide) (by decide) rfl rfl ?_
  obtain ⟨r2, hc1, hf⟩ := fd_bi hf
  refine fr_callSz (pc := 8) (av := [.int a1, .int (h.1 48 1)]) dX8_stands_8 yy_X8_isBelow kw_111 rfl rfl (Nat.le_of_ble_eq_true rfl) ⟨Nat.le_of_ble_eq_true rfl, Nat.le_of_ble_eq_true rfl, Nat.zero_le _, Nat.zero_le _⟩ (sX8_isBelow hc1) ?_
  refine fr_bz (pc := 11) 23 dX8_stands_11 (by decide) (fun c3 => ?_) (fun c3 => ?_)
  · have hf := fd_f c3 hf
    refine fr_bipush (pc := 23) (v := (-2 : Int32)) dX8_stands_23 (by decide) ?_
    exact fr_iretP (x := (-2 : Int32)) (pc := 25) dX8_stands_25 rfl hf
  · have hf := fd_t c3 hf
    refine fr_iload_n (pc := 14) dX8_stands_14 2 rfl rfl ?_
    refine fr_bipush (pc := 15) (v := (40 : Int32)) dX8_stands_15 (by decide) ?_
    obtain ⟨r5, hc4, hf⟩ := fd_bi hf
    refine fr_callSz (pc := 17) (av := [.int a2, .int (40 : Int32)]) dX8_stands_17 yy_X8_isBelow kw_111 rfl rfl (Nat.le_of_ble_eq_true rfl) ⟨Nat.le_of_ble_eq_true rfl, Nat.le_of_ble_eq_true rfl, Nat.zero_le _, Nat.zero_le _⟩ (sX8_isBelow hc4) ?_
    refine fr_bn (pc := 20) 26 dX8_stands_20 (by decide) (fun c6 => ?_) (fun c6 => ?_)
    · have hf := fd_t c6 hf
      refine fr_aload_n (pc := 26) dX8_stands_26 0 rfl rfl ?_
      refine fr_iload_n (pc := 27) dX8_stands_27 1 rfl rfl ?_
      refine fr_iload_n (pc := 28) dX8_stands_28 2 rfl rfl ?_
      refine fr_aload_n (pc := 29) dX8_stands_29 0 rfl rfl ?_
      refine fr_getR (pc := 30) dX8_stands_30 fl_X8_21 (by decide) rfl rfl ?_
      refine fr_getR (pc := 33) dX8_stands_33 fl_X8_144 (by decide) rfl rfl ?_
      obtain ⟨r8, hc7, hf⟩ := fd_bi hf
      refine fr_callVz (pc := 36) (av := [.int a1, .int a2, .ref (g.2.2.2 + 46)]) dX8_stands_36 yy_X8_isStanding kw_305 (by decide) rfl rfl rfl rfl (Nat.le_of_ble_eq_true rfl) ⟨Nat.le_of_ble_eq_true rfl, Nat.le_of_ble_eq_true rfl, Nat.zero_le _, Nat.zero_le _⟩ (sX8_isStanding is_46 hc7) ?_
      refine fr_bz (pc := 39) 46 dX8_stands_39 (by decide) (fun c9 => ?_) (fun c9 => ?_)
      · have hf := fd_f c9 hf
        refine fr_iconst (pc := 46) (v := (0 : Int32)) dX8_stands_46 (by decide) ?_
        exact fr_iretP (x := (0 : Int32)) (pc := 47) dX8_stands_47 rfl hf
      · have hf := fd_t c9 hf
        refine fr_iconst (pc := 42) (v := (1 : Int32)) dX8_stands_42 (by decide) ?_
        refine fr_goto (pc := 43) 47 dX8_stands_43 (by decide) ?_
        exact fr_iretP (x := (1 : Int32)) (pc := 47) dX8_stands_47 rfl hf
    · have hf := fd_f c6 hf
      refine fr_bipush (pc := 23) (v := (-2 : Int32)) dX8_stands_23 (by decide) ?_
      exact fr_iretP (x := (-2 : Int32)) (pc := 25) dX8_stands_25 rfl hf
theorem dX8_never_0 : decode cX8_never 0 = .ok (.iconst 0, 1) := by decide +kernel
theorem dX8_never_1 : decode cX8_never 1 = .ok (.istore_n 1, 1) := by decide +kernel
theorem dX8_never_2 : decode cX8_never 2 = .ok (.iconst 0, 1) := by decide +kernel
theorem dX8_never_3 : decode cX8_never 3 = .ok (.istore_n 2, 1) := by decide +kernel
theorem dX8_never_4 : decode cX8_never 4 = .ok (.iload_n 2, 1) := by decide +kernel
theorem dX8_never_5 : decode cX8_never 5 = .ok (.aload_n 0, 1) := by decide +kernel
theorem dX8_never_6 : decode cX8_never 6 = .ok (.getfield 33, 3) := by decide +kernel
theorem dX8_never_9 : decode cX8_never 9 = .ok (.getfield 104, 3) := by decide +kernel
theorem dX8_never_12 : decode cX8_never 12 = .ok (.if_icmp .ge 32, 3) := by decide +kernel
theorem dX8_never_15 : decode cX8_never 15 = .ok (.aload_n 0, 1) := by decide +kernel
theorem dX8_never_16 : decode cX8_never 16 = .ok (.iload_n 2, 1) := by decide +kernel
theorem dX8_never_17 : decode cX8_never 17 = .ok (.bipush 39, 2) := by decide +kernel
theorem dX8_never_19 : decode cX8_never 19 = .ok (.aload_n 0, 1) := by decide +kernel
theorem dX8_never_20 : decode cX8_never 20 = .ok (.getfield 21, 3) := by decide +kernel
theorem dX8_never_23 : decode cX8_never 23 = .ok (.getfield 144, 3) := by decide +kernel
theorem dX8_never_26 : decode cX8_never 26 = .ok (.invokevirtual 154, 3) := by decide +kernel
theorem dX8_never_29 : decode cX8_never 29 = .ok (.ifCond .eq 9, 3) := by decide +kernel
theorem dX8_never_32 : decode cX8_never 32 = .ok (.iload_n 1, 1) := by decide +kernel
theorem dX8_never_33 : decode cX8_never 33 = .ok (.iconst 1, 1) := by decide +kernel
theorem dX8_never_34 : decode cX8_never 34 = .ok (.iload_n 2, 1) := by decide +kernel
theorem dX8_never_35 : decode cX8_never 35 = .ok (.ishl, 1) := by decide +kernel
theorem dX8_never_36 : decode cX8_never 36 = .ok (.ior, 1) := by decide +kernel
theorem dX8_never_37 : decode cX8_never 37 = .ok (.istore_n 1, 1) := by decide +kernel
theorem dX8_never_38 : decode cX8_never 38 = .ok (.iinc 2 1, 3) := by decide +kernel
theorem dX8_never_41 : decode cX8_never 41 = .ok (.goto (-37), 3) := by decide +kernel
theorem dX8_never_44 : decode cX8_never 44 = .ok (.iload_n 1, 1) := by decide +kernel
theorem dX8_never_45 : decode cX8_never 45 = .ok (.ireturn, 1) := by decide +kernel
def fX8_never_L4  (h : fd_H) : Nat → Int32 → Int32 → Option (Int32)
  | 0 => fun _ _ => none
  | n + 1 => fun v1 v2 =>
if (h.1 48 1) ≤ v2 then (
some (v1))
else (
(fX8_isStanding v2 (39 : Int32) 46 h).bind fun r3 =>
if r3 = true then (
fd_lt ((v1 ||| ((1 : Int32) <<< (v2 &&& 31)))) fun x5 =>
fX8_never_L4 h n x5 (v2 + (1 : Int32)))
else (
fX8_never_L4 h n v1 (v2 + (1 : Int32))))
set_option maxRecDepth 100000 in
set_option maxHeartbeats 4000000 in
theorem sX8_never_L4 {g : fd_G} {hm : fd_H} {h : fd_H} {r : Int32} : ∀ (n : Nat) (v1 : Int32) (v2 : Int32), fX8_never_L4 h n v1 v2 = some r → fd_A g mX8_never fd_E (fd_rm 3 0 0) (fd_Q g (some (.int r)) fd_X0 (fd_mx h hm) 0 0) 4 [(0, .ref (g.2.2.2 + 0)), (1, .int v1), (2, .int v2)] [] fd_X0 (fd_mx h hm) 0 0 := by
  intro n
  induction n with
  | zero =>
    intro _ _ hf
    cases hf
  | succ n ih =>
    intro v1 v2 hf
    rw [fX8_never_L4] at hf
    refine fr_iload_n (pc := 4) dX8_never_4 2 rfl rfl ?_
    refine fr_aload_n (pc := 5) dX8_never_5 0 rfl rfl ?_
    refine fr_getR (pc := 6) dX8_never_6 fl_X8_33 (by decide) rfl rfl ?_
    refine vx_getI (pc := 9) dX8_never_9 fl_X8_104 (by decide) (by decide) rfl rfl ?_
    refine fr_icmp_ge (pc := 12) 44 dX8_never_12 (by decide) (fun c1 => ?_) (fun c1 => ?_)
    · have hf := fd_t c1 hf
      refine fr_iload_n (pc := 44) dX8_never_44 1 rfl rfl ?_
      exact fr_iretP (x := v1) (pc := 45) dX8_never_45 rfl hf
    · have hf := fd_f c1 hf
      refine fr_aload_n (pc := 15) dX8_never_15 0 rfl rfl ?_
      refine fr_iload_n (pc := 16) dX8_never_16 2 rfl rfl ?_
      refine fr_bipush (pc := 17) (v := (39 : Int32)) dX8_never_17 (by decide) ?_
      refine fr_aload_n (pc := 19) dX8_never_19 0 rfl rfl ?_
      refine fr_getR (pc := 20) dX8_never_20 fl_X8_21 (by decide) rfl rfl ?_
      refine fr_getR (pc := 23) dX8_never_23 fl_X8_144 (by decide) rfl rfl ?_
      obtain ⟨r3, hc2, hf⟩ := fd_bi hf
      refine fr_callVz (pc := 26) (av := [.int v2, .int (39 : Int32), .ref (g.2.2.2 + 46)]) dX8_never_26 yy_X8_isStanding kw_305 (by decide) rfl rfl rfl rfl (Nat.le_of_ble_eq_true rfl) ⟨Nat.le_of_ble_eq_true rfl, Nat.le_of_ble_eq_true rfl, Nat.zero_le _, Nat.zero_le _⟩ (sX8_isStanding is_46 hc2) ?_
      refine fr_bz (pc := 29) 38 dX8_never_29 (by decide) (fun c4 => ?_) (fun c4 => ?_)
      · have hf := fd_f c4 hf
        refine fr_iinc (pc := 38) (v := (v2 + (1 : Int32))) (lv' := [(2, .int (v2 + (1 : Int32))), (0, .ref (g.2.2.2 + 0)), (1, .int v1)]) dX8_never_38 2 rfl rfl (by decide) rfl ?_
        refine fr_goto (pc := 41) 4 dX8_never_41 (by decide) ?_
        refine fr_loc (lv' := [(0, .ref (g.2.2.2 + 0)), (1, .int v1), (2, .int (v2 + (1 : Int32)))]) [1, 2, 0] rfl ?_
        exact ih _ _ hf
      · have hf := fd_t c4 hf
        refine fr_iload_n (pc := 32) dX8_never_32 1 rfl rfl ?_
        refine fr_iconst (pc := 33) (v := (1 : Int32)) dX8_never_33 (by decide) ?_
        refine fr_iload_n (pc := 34) dX8_never_34 2 rfl rfl ?_
        refine fr_ishl (pc := 35) dX8_never_35 ?_
        refine fr_ior (pc := 36) dX8_never_36 ?_
        obtain ⟨x5, ex5, hf⟩ := fd_lt_e hf
        refine fr_nmi ex5 ?_
        refine fr_istore_n (pc := 37) (lv' := [(1, .int x5), (0, .ref (g.2.2.2 + 0)), (2, .int v2)]) dX8_never_37 rfl (by decide) rfl ?_
        refine fr_iinc (pc := 38) (v := (v2 + (1 : Int32))) (lv' := [(2, .int (v2 + (1 : Int32))), (1, .int x5), (0, .ref (g.2.2.2 + 0))]) dX8_never_38 2 rfl rfl (by decide) rfl ?_
        refine fr_goto (pc := 41) 4 dX8_never_41 (by decide) ?_
        refine fr_loc (lv' := [(0, .ref (g.2.2.2 + 0)), (1, .int x5), (2, .int (v2 + (1 : Int32)))]) [2, 1, 0] rfl ?_
        exact ih _ _ hf
def fX8_never  (h : fd_H) : Option (Int32) :=
fX8_never_L4 h fd_fu (0 : Int32) (0 : Int32)
set_option maxRecDepth 100000 in
set_option maxHeartbeats 4000000 in
theorem sX8_never {g : fd_G} {hm : fd_H} {h : fd_H} {r : Int32} (hf : fX8_never h = some r) : fd_S g mX8_never 3 [.ref (g.2.2.2 + 0)] fd_X0 (fd_mx h hm) (some (.int r)) fd_X0 (fd_mx h hm) 0 0 := by
  refine fd_S.of (by decide +kernel) (Nat.le_of_ble_eq_true rfl) ?_
  unfold fX8_never at hf
  refine fr_loc (lv' := [(0, .ref (g.2.2.2 + 0))]) [0] rfl ?_
  refine fr_iconst (pc := 0) (v := (0 : Int32)) dX8_never_0 (by decide) ?_
  refine fr_istore_n (pc := 1) (lv' := [(1, .int (0 : Int32)), (0, .ref (g.2.2.2 + 0))]) dX8_never_1 rfl (by decide) rfl ?_
  refine fr_iconst (pc := 2) (v := (0 : Int32)) dX8_never_2 (by decide) ?_
  refine fr_istore_n (pc := 3) (lv' := [(2, .int (0 : Int32)), (1, .int (0 : Int32)), (0, .ref (g.2.2.2 + 0))]) dX8_never_3 rfl (by decide) rfl ?_
  refine fr_loc (lv' := [(0, .ref (g.2.2.2 + 0)), (1, .int (0 : Int32)), (2, .int (0 : Int32))]) [2, 1, 0] rfl ?_
  exact sX8_never_L4 _  _ _ hf
theorem dX8_carry_0 : decode cX8_carry 0 = .ok (.iload_n 1, 1) := by decide +kernel
theorem dX8_carry_1 : decode cX8_carry 1 = .ok (.bipush 6, 2) := by decide +kernel
theorem dX8_carry_3 : decode cX8_carry 3 = .ok (.invokestatic 62, 3) := by decide +kernel
theorem dX8_carry_6 : decode cX8_carry 6 = .ok (.ifCond .eq 17, 3) := by decide +kernel
theorem dX8_carry_9 : decode cX8_carry 9 = .ok (.iload_n 2, 1) := by decide +kernel
theorem dX8_carry_10 : decode cX8_carry 10 = .ok (.aload_n 0, 1) := by decide +kernel
theorem dX8_carry_11 : decode cX8_carry 11 = .ok (.getfield 21, 3) := by decide +kernel
theorem dX8_carry_14 : decode cX8_carry 14 = .ok (.getfield 98, 3) := by decide +kernel
theorem dX8_carry_17 : decode cX8_carry 17 = .ok (.invokestatic 62, 3) := by decide +kernel
theorem dX8_carry_20 : decode cX8_carry 20 = .ok (.ifCond .ne 6, 3) := by decide +kernel
theorem dX8_carry_23 : decode cX8_carry 23 = .ok (.bipush (-2), 2) := by decide +kernel
theorem dX8_carry_25 : decode cX8_carry 25 = .ok (.ireturn, 1) := by decide +kernel
theorem dX8_carry_26 : decode cX8_carry 26 = .ok (.iload_n 3, 1) := by decide +kernel
theorem dX8_carry_27 : decode cX8_carry 27 = .ok (.iconst 3, 1) := by decide +kernel
theorem dX8_carry_28 : decode cX8_carry 28 = .ok (.invokestatic 173, 3) := by decide +kernel
theorem dX8_carry_31 : decode cX8_carry 31 = .ok (.ifCond .ne 6, 3) := by decide +kernel
theorem dX8_carry_34 : decode cX8_carry 34 = .ok (.bipush (-2), 2) := by decide +kernel
theorem dX8_carry_36 : decode cX8_carry 36 = .ok (.ireturn, 1) := by decide +kernel
theorem dX8_carry_37 : decode cX8_carry 37 = .ok (.lconst 0, 1) := by decide +kernel
theorem dX8_carry_38 : decode cX8_carry 38 = .ok (.lstore 4, 2) := by decide +kernel
theorem dX8_carry_40 : decode cX8_carry 40 = .ok (.iconst 0, 1) := by decide +kernel
theorem dX8_carry_41 : decode cX8_carry 41 = .ok (.istore 6, 2) := by decide +kernel
theorem dX8_carry_43 : decode cX8_carry 43 = .ok (.iload 6, 2) := by decide +kernel
theorem dX8_carry_45 : decode cX8_carry 45 = .ok (.aload_n 0, 1) := by decide +kernel
theorem dX8_carry_46 : decode cX8_carry 46 = .ok (.getfield 33, 3) := by decide +kernel
theorem dX8_carry_49 : decode cX8_carry 49 = .ok (.getfield 104, 3) := by decide +kernel
theorem dX8_carry_52 : decode cX8_carry 52 = .ok (.if_icmp .ge 57, 3) := by decide +kernel
theorem dX8_carry_55 : decode cX8_carry 55 = .ok (.aload_n 0, 1) := by decide +kernel
theorem dX8_carry_56 : decode cX8_carry 56 = .ok (.getfield 33, 3) := by decide +kernel
theorem dX8_carry_59 : decode cX8_carry 59 = .ok (.iload 6, 2) := by decide +kernel
theorem dX8_carry_61 : decode cX8_carry 61 = .ok (.iconst 0, 1) := by decide +kernel
theorem dX8_carry_62 : decode cX8_carry 62 = .ok (.invokevirtual 107, 3) := by decide +kernel
theorem dX8_carry_65 : decode cX8_carry 65 = .ok (.iload_n 1, 1) := by decide +kernel
theorem dX8_carry_66 : decode cX8_carry 66 = .ok (.if_icmp .ne 37, 3) := by decide +kernel
theorem dX8_carry_69 : decode cX8_carry 69 = .ok (.aload_n 0, 1) := by decide +kernel
theorem dX8_carry_70 : decode cX8_carry 70 = .ok (.iload 6, 2) := by decide +kernel
theorem dX8_carry_72 : decode cX8_carry 72 = .ok (.iload_n 2, 1) := by decide +kernel
theorem dX8_carry_73 : decode cX8_carry 73 = .ok (.aload_n 0, 1) := by decide +kernel
theorem dX8_carry_74 : decode cX8_carry 74 = .ok (.getfield 21, 3) := by decide +kernel
theorem dX8_carry_77 : decode cX8_carry 77 = .ok (.getfield 144, 3) := by decide +kernel
theorem dX8_carry_80 : decode cX8_carry 80 = .ok (.invokevirtual 154, 3) := by decide +kernel
theorem dX8_carry_83 : decode cX8_carry 83 = .ok (.ifCond .eq 20, 3) := by decide +kernel
theorem dX8_carry_86 : decode cX8_carry 86 = .ok (.lload 4, 2) := by decide +kernel
theorem dX8_carry_88 : decode cX8_carry 88 = .ok (.lconst 1, 1) := by decide +kernel
theorem dX8_carry_89 : decode cX8_carry 89 = .ok (.aload_n 0, 1) := by decide +kernel
theorem dX8_carry_90 : decode cX8_carry 90 = .ok (.getfield 33, 3) := by decide +kernel
theorem dX8_carry_93 : decode cX8_carry 93 = .ok (.iload 6, 2) := by decide +kernel
theorem dX8_carry_95 : decode cX8_carry 95 = .ok (.iconst 3, 1) := by decide +kernel
theorem dX8_carry_96 : decode cX8_carry 96 = .ok (.invokevirtual 107, 3) := by decide +kernel
theorem dX8_carry_99 : decode cX8_carry 99 = .ok (.lshl, 1) := by decide +kernel
theorem dX8_carry_100 : decode cX8_carry 100 = .ok (.lor, 1) := by decide +kernel
theorem dX8_carry_101 : decode cX8_carry 101 = .ok (.lstore 4, 2) := by decide +kernel
theorem dX8_carry_103 : decode cX8_carry 103 = .ok (.iinc 6 1, 3) := by decide +kernel
theorem dX8_carry_106 : decode cX8_carry 106 = .ok (.goto (-63), 3) := by decide +kernel
theorem dX8_carry_109 : decode cX8_carry 109 = .ok (.lload 4, 2) := by decide +kernel
theorem dX8_carry_111 : decode cX8_carry 111 = .ok (.invokestatic 183, 3) := by decide +kernel
theorem dX8_carry_114 : decode cX8_carry 114 = .ok (.iconst 3, 1) := by decide +kernel
theorem dX8_carry_115 : decode cX8_carry 115 = .ok (.if_icmp .gt 12, 3) := by decide +kernel
theorem dX8_carry_118 : decode cX8_carry 118 = .ok (.lload 4, 2) := by decide +kernel
theorem dX8_carry_120 : decode cX8_carry 120 = .ok (.iload_n 3, 1) := by decide +kernel
theorem dX8_carry_121 : decode cX8_carry 121 = .ok (.invokestatic 179, 3) := by decide +kernel
theorem dX8_carry_124 : decode cX8_carry 124 = .ok (.goto 4, 3) := by decide +kernel
theorem dX8_carry_127 : decode cX8_carry 127 = .ok (.iconst (-1), 1) := by decide +kernel
theorem dX8_carry_128 : decode cX8_carry 128 = .ok (.ireturn, 1) := by decide +kernel
def fX8_carry_L43 (a1 : Int32) (a2 : Int32) (a3 : Int32) (h : fd_H) : Nat → Int64 → Int32 → Option (Int32)
  | 0 => fun _ _ => none
  | n + 1 => fun v4 v6 =>
if (h.1 48 1) ≤ v6 then (
(fJ13_bitCount_95d88 v4).bind fun r3 =>
if (3 : Int32) < r3 then (
some ((-1 : Int32)))
else (
(fX8_countOrItem v4 a3).bind fun r6 =>
some (r6)))
else (
(fX0_fact v6 (0 : Int32) h).bind fun r8 =>
if r8 = a1 then (
(fX8_isStanding v6 a2 46 h).bind fun r11 =>
if r11 = true then (
(fX0_fact v6 (3 : Int32) h).bind fun r14 =>
fd_lt ((v4 ||| (fd_lshl (1 : Int64) r14))) fun x15 =>
fX8_carry_L43 a1 a2 a3 h n x15 (v6 + (1 : Int32)))
else (
fX8_carry_L43 a1 a2 a3 h n v4 (v6 + (1 : Int32))))
else (
fX8_carry_L43 a1 a2 a3 h n v4 (v6 + (1 : Int32))))
set_option maxRecDepth 100000 in
set_option maxHeartbeats 4000000 in
theorem sX8_carry_L43 {g : fd_G} {hm : fd_H} {a1 : Int32} {a2 : Int32} {a3 : Int32} {h : fd_H} {r : Int32} : ∀ (n : Nat) (v4 : Int64) (v6 : Int32), fX8_carry_L43 a1 a2 a3 h n v4 v6 = some r → fd_A g mX8_carry fd_E (fd_rm 3 0 0) (fd_Q g (some (.int r)) fd_X0 (fd_mx h hm) 0 0) 43 [(0, .ref (g.2.2.2 + 0)), (1, .int a1), (2, .int a2), (3, .int a3), (4, .long v4), (6, .int v6)] [] fd_X0 (fd_mx h hm) 0 0 := by
  intro n
  induction n with
  | zero =>
    intro _ _ hf
    cases hf
  | succ n ih =>
    intro v4 v6 hf
    rw [fX8_carry_L43] at hf
    refine fr_iload (pc := 43) dX8_carry_43 5 rfl ?_
    refine fr_aload_n (pc := 45) dX8_carry_45 0 rfl rfl ?_
    refine fr_getR (pc := 46) dX8_carry_46 fl_X8_33 (by decide) rfl rfl ?_
    refine vx_getI (pc := 49) dX8_carry_49 fl_X8_104 (by decide) (by decide) rfl rfl ?_
    refine fr_icmp_ge (pc := 52) 109 dX8_carry_52 (by decide) (fun c1 => ?_) (fun c1 => ?_)
    · have hf := fd_t c1 hf
      refine fr_lload (pc := 109) dX8_carry_109 4 rfl ?_
      obtain ⟨r3, hc2, hf⟩ := fd_bi hf
      refine fr_callSi (pc := 111) (av := [.long v4]) dX8_carry_111 yy_J13_bitCount_95d88 kw_144 rfl rfl (Nat.le_of_ble_eq_true rfl) ⟨Nat.le_of_ble_eq_true rfl, Nat.le_of_ble_eq_true rfl, Nat.zero_le _, Nat.zero_le _⟩ (sJ13_bitCount_95d88 hc2) ?_
      refine fr_iconst (pc := 114) (v := (3 : Int32)) dX8_carry_114 (by decide) ?_
      refine fr_icmp_gt (pc := 115) 127 dX8_carry_115 (by decide) (fun c4 => ?_) (fun c4 => ?_)
      · have hf := fd_t c4 hf
        refine fr_iconst (pc := 127) (v := (-1 : Int32)) dX8_carry_127 (by decide) ?_
        exact fr_iretP (x := (-1 : Int32)) (pc := 128) dX8_carry_128 rfl hf
      · have hf := fd_f c4 hf
        refine fr_lload (pc := 118) dX8_carry_118 4 rfl ?_
        refine fr_iload_n (pc := 120) dX8_carry_120 3 rfl rfl ?_
        obtain ⟨r6, hc5, hf⟩ := fd_bi hf
        refine fr_callSi (pc := 121) (av := [.long v4, .int a3]) dX8_carry_121 yy_X8_countOrItem kw_204 rfl rfl (Nat.le_of_ble_eq_true rfl) ⟨Nat.le_of_ble_eq_true rfl, Nat.le_of_ble_eq_true rfl, Nat.zero_le _, Nat.zero_le _⟩ (sX8_countOrItem hc5) ?_
        refine fr_goto (pc := 124) 128 dX8_carry_124 (by decide) ?_
        exact fr_iretP (x := r6) (pc := 128) dX8_carry_128 rfl hf
    · have hf := fd_f c1 hf
      refine fr_aload_n (pc := 55) dX8_carry_55 0 rfl rfl ?_
      refine fr_getR (pc := 56) dX8_carry_56 fl_X8_33 (by decide) rfl rfl ?_
      refine fr_iload (pc := 59) dX8_carry_59 5 rfl ?_
      refine fr_iconst (pc := 61) (v := (0 : Int32)) dX8_carry_61 (by decide) ?_
      obtain ⟨r8, hc7, hf⟩ := fd_bi hf
      refine fr_callVi (pc := 62) (av := [.int v6, .int (0 : Int32)]) dX8_carry_62 yy_X0_fact kw_195 (by decide) rfl rfl rfl rfl (Nat.le_of_ble_eq_true rfl) ⟨Nat.le_of_ble_eq_true rfl, Nat.le_of_ble_eq_true rfl, Nat.zero_le _, Nat.zero_le _⟩ (sX0_fact hc7) ?_
      refine fr_iload_n (pc := 65) dX8_carry_65 1 rfl rfl ?_
      refine fr_icmp_ne (pc := 66) 103 dX8_carry_66 (by decide) (fun c9 => ?_) (fun c9 => ?_)
      · have hf := fd_f c9 hf
        refine fr_iinc (pc := 103) (v := (v6 + (1 : Int32))) (lv' := [(6, .int (v6 + (1 : Int32))), (0, .ref (g.2.2.2 + 0)), (1, .int a1), (2, .int a2), (3, .int a3), (4, .long v4)]) dX8_carry_103 5 rfl rfl (by decide) rfl ?_
        refine fr_goto (pc := 106) 43 dX8_carry_106 (by decide) ?_
        refine fr_loc (lv' := [(0, .ref (g.2.2.2 + 0)), (1, .int a1), (2, .int a2), (3, .int a3), (4, .long v4), (6, .int (v6 + (1 : Int32)))]) [1, 2, 3, 4, 5, 0] rfl ?_
        exact ih _ _ hf
      · have hf := fd_t c9 hf
        refine fr_aload_n (pc := 69) dX8_carry_69 0 rfl rfl ?_
        refine fr_iload (pc := 70) dX8_carry_70 5 rfl ?_
        refine fr_iload_n (pc := 72) dX8_carry_72 2 rfl rfl ?_
        refine fr_aload_n (pc := 73) dX8_carry_73 0 rfl rfl ?_
        refine fr_getR (pc := 74) dX8_carry_74 fl_X8_21 (by decide) rfl rfl ?_
        refine fr_getR (pc := 77) dX8_carry_77 fl_X8_144 (by decide) rfl rfl ?_
        obtain ⟨r11, hc10, hf⟩ := fd_bi hf
        refine fr_callVz (pc := 80) (av := [.int v6, .int a2, .ref (g.2.2.2 + 46)]) dX8_carry_80 yy_X8_isStanding kw_305 (by decide) rfl rfl rfl rfl (Nat.le_of_ble_eq_true rfl) ⟨Nat.le_of_ble_eq_true rfl, Nat.le_of_ble_eq_true rfl, Nat.zero_le _, Nat.zero_le _⟩ (sX8_isStanding is_46 hc10) ?_
        refine fr_bz (pc := 83) 103 dX8_carry_83 (by decide) (fun c12 => ?_) (fun c12 => ?_)
        · have hf := fd_f c12 hf
          refine fr_iinc (pc := 103) (v := (v6 + (1 : Int32))) (lv' := [(6, .int (v6 + (1 : Int32))), (0, .ref (g.2.2.2 + 0)), (1, .int a1), (2, .int a2), (3, .int a3), (4, .long v4)]) dX8_carry_103 5 rfl rfl (by decide) rfl ?_
          refine fr_goto (pc := 106) 43 dX8_carry_106 (by decide) ?_
          refine fr_loc (lv' := [(0, .ref (g.2.2.2 + 0)), (1, .int a1), (2, .int a2), (3, .int a3), (4, .long v4), (6, .int (v6 + (1 : Int32)))]) [1, 2, 3, 4, 5, 0] rfl ?_
          exact ih _ _ hf
        · have hf := fd_t c12 hf
          refine fr_lload (pc := 86) dX8_carry_86 4 rfl ?_
          refine fr_lconst (pc := 88) (v := (1 : Int64)) dX8_carry_88 (by decide) ?_
          refine fr_aload_n (pc := 89) dX8_carry_89 0 rfl rfl ?_
          refine fr_getR (pc := 90) dX8_carry_90 fl_X8_33 (by decide) rfl rfl ?_
          refine fr_iload (pc := 93) dX8_carry_93 5 rfl ?_
          refine fr_iconst (pc := 95) (v := (3 : Int32)) dX8_carry_95 (by decide) ?_
          obtain ⟨r14, hc13, hf⟩ := fd_bi hf
          refine fr_callVi (pc := 96) (av := [.int v6, .int (3 : Int32)]) dX8_carry_96 yy_X0_fact kw_195 (by decide) rfl rfl rfl rfl (Nat.le_of_ble_eq_true rfl) ⟨Nat.le_of_ble_eq_true rfl, Nat.le_of_ble_eq_true rfl, Nat.zero_le _, Nat.zero_le _⟩ (sX0_fact hc13) ?_
          refine fr_lshl (pc := 99) dX8_carry_99 ?_
          refine fr_lor (pc := 100) dX8_carry_100 ?_
          obtain ⟨x15, ex15, hf⟩ := fd_lt_e hf
          refine fr_nml ex15 ?_
          refine fr_lstore (pc := 101) (lv' := [(4, .long x15), (0, .ref (g.2.2.2 + 0)), (1, .int a1), (2, .int a2), (3, .int a3), (6, .int v6)]) dX8_carry_101 (by decide) rfl ?_
          refine fr_iinc (pc := 103) (v := (v6 + (1 : Int32))) (lv' := [(6, .int (v6 + (1 : Int32))), (4, .long x15), (0, .ref (g.2.2.2 + 0)), (1, .int a1), (2, .int a2), (3, .int a3)]) dX8_carry_103 5 rfl rfl (by decide) rfl ?_
          refine fr_goto (pc := 106) 43 dX8_carry_106 (by decide) ?_
          refine fr_loc (lv' := [(0, .ref (g.2.2.2 + 0)), (1, .int a1), (2, .int a2), (3, .int a3), (4, .long x15), (6, .int (v6 + (1 : Int32)))]) [2, 3, 4, 5, 1, 0] rfl ?_
          exact ih _ _ hf
def fX8_carry (a1 : Int32) (a2 : Int32) (a3 : Int32) (h : fd_H) : Option (Int32) :=
(fX8_isBelow a1 (6 : Int32)).bind fun r2 =>
if r2 = true then (
(fX8_isBelow a2 (h.1 11 5)).bind fun r5 =>
if r5 = true then (
(fX8_isChoice a3 (3 : Int32)).bind fun r8 =>
if r8 = true then (
fX8_carry_L43 a1 a2 a3 h fd_fu (0 : Int64) (0 : Int32))
else (
some ((-2 : Int32))))
else (
some ((-2 : Int32))))
else (
some ((-2 : Int32)))
set_option maxRecDepth 100000 in
set_option maxHeartbeats 4000000 in
theorem sX8_carry {g : fd_G} {hm : fd_H} {a1 : Int32} {a2 : Int32} {a3 : Int32} {h : fd_H} {r : Int32} (hf : fX8_carry a1 a2 a3 h = some r) : fd_S g mX8_carry 3 [.ref (g.2.2.2 + 0), .int a1, .int a2, .int a3] fd_X0 (fd_mx h hm) (some (.int r)) fd_X0 (fd_mx h hm) 0 0 := by
  refine fd_S.of (by decide +kernel) (Nat.le_of_ble_eq_true rfl) ?_
  unfold fX8_carry at hf
  refine fr_loc (lv' := [(0, .ref (g.2.2.2 + 0)), (1, .int a1), (2, .int a2), (3, .int a3)]) [0, 1, 2, 3] rfl ?_
  refine fr_iload_n (pc := 0) dX8_carry_0 1 rfl rfl ?_
  refine fr_bipush (pc := 1) (v := (6 : Int32)) dX8_carry_1 (by decide) ?_
  obtain ⟨r2, hc1, hf⟩ := fd_bi hf
  refine fr_callSz (pc := 3) (av := [.int a1, .int (6 : Int32)]) dX8_carry_3 yy_X8_isBelow kw_111 rfl rfl (Nat.le_of_ble_eq_true rfl) ⟨Nat.le_of_ble_eq_true rfl, Nat.le_of_ble_eq_true rfl, Nat.zero_le _, Nat.zero_le _⟩ (sX8_isBelow hc1) ?_
  refine fr_bz (pc := 6) 23 dX8_carry_6 (by decide) (fun c3 => ?_) (fun c3 => ?_)
  · have hf := fd_f c3 hf
    refine fr_bipush (pc := 23) (v := (-2 : Int32)) dX8_carry_23 (by decide) ?_
    exact fr_iretP (x := (-2 : Int32)) (pc := 25) dX8_carry_25 rfl hf
  · have hf := fd_t c3 hf
    refine fr_iload_n (pc := 9) dX8_carry_9 2 rfl rfl ?_
    refine fr_aload_n (pc := 10) dX8_carry_10 0 rfl rfl ?_
    refine fr_getR (pc := 11) dX8_carry_11 fl_X8_21 (by decide) rfl rfl ?_
    refine vx_getI (pc := 14) dX8_carry_14 fl_X8_98 (by decide) (by decide) rfl rfl ?_
    obtain ⟨r5, hc4, hf⟩ := fd_bi hf
    refine fr_callSz (pc := 17) (av := [.int a2, .int (h.1 11 5)]) dX8_carry_17 yy_X8_isBelow kw_111 rfl rfl (Nat.le_of_ble_eq_true rfl) ⟨Nat.le_of_ble_eq_true rfl, Nat.le_of_ble_eq_true rfl, Nat.zero_le _, Nat.zero_le _⟩ (sX8_isBelow hc4) ?_
    refine fr_bn (pc := 20) 26 dX8_carry_20 (by decide) (fun c6 => ?_) (fun c6 => ?_)
    · have hf := fd_t c6 hf
      refine fr_iload_n (pc := 26) dX8_carry_26 3 rfl rfl ?_
      refine fr_iconst (pc := 27) (v := (3 : Int32)) dX8_carry_27 (by decide) ?_
      obtain ⟨r8, hc7, hf⟩ := fd_bi hf
      refine fr_callSz (pc := 28) (av := [.int a3, .int (3 : Int32)]) dX8_carry_28 yy_X8_isChoice kw_202 rfl rfl (Nat.le_of_ble_eq_true rfl) ⟨Nat.le_of_ble_eq_true rfl, Nat.le_of_ble_eq_true rfl, Nat.zero_le _, Nat.zero_le _⟩ (sX8_isChoice hc7) ?_
      refine fr_bn (pc := 31) 37 dX8_carry_31 (by decide) (fun c9 => ?_) (fun c9 => ?_)
      · have hf := fd_t c9 hf
        refine fr_lconst (pc := 37) (v := (0 : Int64)) dX8_carry_37 (by decide) ?_
        refine fr_lstore (pc := 38) (lv' := [(4, .long (0 : Int64)), (0, .ref (g.2.2.2 + 0)), (1, .int a1), (2, .int a2), (3, .int a3)]) dX8_carry_38 (by decide) rfl ?_
        refine fr_iconst (pc := 40) (v := (0 : Int32)) dX8_carry_40 (by decide) ?_
        refine fr_istore (pc := 41) (lv' := [(6, .int (0 : Int32)), (4, .long (0 : Int64)), (0, .ref (g.2.2.2 + 0)), (1, .int a1), (2, .int a2), (3, .int a3)]) dX8_carry_41 (by decide) rfl ?_
        refine fr_loc (lv' := [(0, .ref (g.2.2.2 + 0)), (1, .int a1), (2, .int a2), (3, .int a3), (4, .long (0 : Int64)), (6, .int (0 : Int32))]) [2, 3, 4, 5, 1, 0] rfl ?_
        exact sX8_carry_L43 _  _ _ hf
      · have hf := fd_f c9 hf
        refine fr_bipush (pc := 34) (v := (-2 : Int32)) dX8_carry_34 (by decide) ?_
        exact fr_iretP (x := (-2 : Int32)) (pc := 36) dX8_carry_36 rfl hf
    · have hf := fd_f c6 hf
      refine fr_bipush (pc := 23) (v := (-2 : Int32)) dX8_carry_23 (by decide) ?_
      exact fr_iretP (x := (-2 : Int32)) (pc := 25) dX8_carry_25 rfl hf
theorem dX8_read_0 : decode cX8_read 0 = .ok (.iload_n 1, 1) := by decide +kernel
theorem dX8_read_1 : decode cX8_read 1 = .ok (.iconst 4, 1) := by decide +kernel
theorem dX8_read_2 : decode cX8_read 2 = .ok (.invokestatic 62, 3) := by decide +kernel
theorem dX8_read_5 : decode cX8_read 5 = .ok (.ifCond .ne 6, 3) := by decide +kernel
theorem dX8_read_8 : decode cX8_read 8 = .ok (.bipush (-2), 2) := by decide +kernel
theorem dX8_read_10 : decode cX8_read 10 = .ok (.ireturn, 1) := by decide +kernel
theorem dX8_read_11 : decode cX8_read 11 = .ok (.aload_n 0, 1) := by decide +kernel
theorem dX8_read_12 : decode cX8_read 12 = .ok (.getfield 54, 3) := by decide +kernel
theorem dX8_read_15 : decode cX8_read 15 = .ok (.iload_n 1, 1) := by decide +kernel
theorem dX8_read_16 : decode cX8_read 16 = .ok (.aaload, 1) := by decide +kernel
theorem dX8_read_17 : decode cX8_read 17 = .ok (.astore_n 2, 1) := by decide +kernel
theorem dX8_read_18 : decode cX8_read 18 = .ok (.aload_n 2, 1) := by decide +kernel
theorem dX8_read_19 : decode cX8_read 19 = .ok (.getfield 192, 3) := by decide +kernel
theorem dX8_read_22 : decode cX8_read 22 = .ok (.ifCond .eq 9, 3) := by decide +kernel
theorem dX8_read_25 : decode cX8_read 25 = .ok (.aload_n 0, 1) := by decide +kernel
theorem dX8_read_26 : decode cX8_read 26 = .ok (.iconst 1, 1) := by decide +kernel
theorem dX8_read_27 : decode cX8_read 27 = .ok (.invokevirtual 196, 3) := by decide +kernel
theorem dX8_read_30 : decode cX8_read 30 = .ok (.ireturn, 1) := by decide +kernel
theorem dX8_read_31 : decode cX8_read 31 = .ok (.iconst 0, 1) := by decide +kernel
theorem dX8_read_32 : decode cX8_read 32 = .ok (.istore_n 3, 1) := by decide +kernel
theorem dX8_read_33 : decode cX8_read 33 = .ok (.iconst 0, 1) := by decide +kernel
theorem dX8_read_34 : decode cX8_read 34 = .ok (.istore 4, 2) := by decide +kernel
theorem dX8_read_36 : decode cX8_read 36 = .ok (.iload 4, 2) := by decide +kernel
theorem dX8_read_38 : decode cX8_read 38 = .ok (.iconst 2, 1) := by decide +kernel
theorem dX8_read_39 : decode cX8_read 39 = .ok (.iadd, 1) := by decide +kernel
theorem dX8_read_40 : decode cX8_read 40 = .ok (.aload_n 2, 1) := by decide +kernel
theorem dX8_read_41 : decode cX8_read 41 = .ok (.getfield 199, 3) := by decide +kernel
theorem dX8_read_44 : decode cX8_read 44 = .ok (.if_icmp .ge 53, 3) := by decide +kernel
theorem dX8_read_47 : decode cX8_read 47 = .ok (.aload_n 0, 1) := by decide +kernel
theorem dX8_read_48 : decode cX8_read 48 = .ok (.aload_n 2, 1) := by decide +kernel
theorem dX8_read_49 : decode cX8_read 49 = .ok (.getfield 200, 3) := by decide +kernel
theorem dX8_read_52 : decode cX8_read 52 = .ok (.iload 4, 2) := by decide +kernel
theorem dX8_read_54 : decode cX8_read 54 = .ok (.invokevirtual 89, 3) := by decide +kernel
theorem dX8_read_57 : decode cX8_read 57 = .ok (.aload_n 2, 1) := by decide +kernel
theorem dX8_read_58 : decode cX8_read 58 = .ok (.getfield 200, 3) := by decide +kernel
theorem dX8_read_61 : decode cX8_read 61 = .ok (.iload 4, 2) := by decide +kernel
theorem dX8_read_63 : decode cX8_read 63 = .ok (.iconst 1, 1) := by decide +kernel
theorem dX8_read_64 : decode cX8_read 64 = .ok (.iadd, 1) := by decide +kernel
theorem dX8_read_65 : decode cX8_read 65 = .ok (.invokevirtual 89, 3) := by decide +kernel
theorem dX8_read_68 : decode cX8_read 68 = .ok (.aload_n 2, 1) := by decide +kernel
theorem dX8_read_69 : decode cX8_read 69 = .ok (.getfield 200, 3) := by decide +kernel
theorem dX8_read_72 : decode cX8_read 72 = .ok (.iload 4, 2) := by decide +kernel
theorem dX8_read_74 : decode cX8_read 74 = .ok (.iconst 2, 1) := by decide +kernel
theorem dX8_read_75 : decode cX8_read 75 = .ok (.iadd, 1) := by decide +kernel
theorem dX8_read_76 : decode cX8_read 76 = .ok (.invokevirtual 89, 3) := by decide +kernel
theorem dX8_read_79 : decode cX8_read 79 = .ok (.invokevirtual 203, 3) := by decide +kernel
theorem dX8_read_82 : decode cX8_read 82 = .ok (.ifCond .ge 6, 3) := by decide +kernel
theorem dX8_read_85 : decode cX8_read 85 = .ok (.goto 12, 3) := by decide +kernel
theorem dX8_read_88 : decode cX8_read 88 = .ok (.iinc 3 1, 3) := by decide +kernel
theorem dX8_read_91 : decode cX8_read 91 = .ok (.iinc 4 3, 3) := by decide +kernel
theorem dX8_read_94 : decode cX8_read 94 = .ok (.goto (-58), 3) := by decide +kernel
theorem dX8_read_97 : decode cX8_read 97 = .ok (.iload_n 3, 1) := by decide +kernel
theorem dX8_read_98 : decode cX8_read 98 = .ok (.ireturn, 1) := by decide +kernel
def fX8_read_L36 (a1 : Int32) : Nat → Nat → Int32 → Int32 → fd_H → Option (Int32 × fd_H)
  | 0 => fun _ _ _ _ => none
  | n + 1 => fun v2 v3 v4 h =>
if (h.1 v2 3) ≤ (v4 + (2 : Int32)) then (
some (v3, h))
else (
(fX3_at (v2 + 1) 48 v4 h).bind fun r3 =>
(fX3_at (v2 + 1) 48 (v4 + (1 : Int32)) h).bind fun r5 =>
(fX3_at (v2 + 1) 48 (v4 + (2 : Int32)) h).bind fun r7 =>
(fX8_seen r3 r5 r7 h).bind fun q9 =>
if 0 ≤ q9.1 then (
fX8_read_L36 a1 n v2 (v3 + (1 : Int32)) (v4 + (3 : Int32)) q9.2)
else (
some (v3, q9.2)))
set_option maxRecDepth 100000 in
set_option maxHeartbeats 4000000 in
theorem sX8_read_L36 {g : fd_G} {hm : fd_H} {a1 : Int32} {r : Int32 × fd_H} : ∀ (n : Nat) (v2 : Nat) (v3 : Int32) (v4 : Int32) (h : fd_H) (pv2 : fd_isSheet v2), fX8_read_L36 a1 n v2 v3 v4 h = some r → fd_A g mX8_read fd_E (fd_rm 3 0 0) (fd_Q g (some (.int r.1)) fd_X0 (fd_mx r.2 hm) 0 0) 36 [(0, .ref (g.2.2.2 + 0)), (2, .ref (g.2.2.2 + v2)), (3, .int v3), (4, .int v4)] [] fd_X0 (fd_mx h hm) 0 0 := by
  intro n
  induction n with
  | zero =>
    intro _ _ _ _ _ hf
    cases hf
  | succ n ih =>
    intro v2 v3 v4 h pv2 hf
    rw [fX8_read_L36] at hf
    refine fr_iload (pc := 36) dX8_read_36 3 rfl ?_
    refine fr_iconst (pc := 38) (v := (2 : Int32)) dX8_read_38 (by decide) ?_
    refine fr_iadd (pc := 39) dX8_read_39 ?_
    refine fr_aload_n (pc := 40) dX8_read_40 1 rfl rfl ?_
    refine vx_getI (pc := 41) dX8_read_41 fl_X8_199 pv2.b pv2.x pv2.s rfl ?_
    refine fr_icmp_ge (pc := 44) 97 dX8_read_44 (by decide) (fun c1 => ?_) (fun c1 => ?_)
    · have hf := fd_t c1 hf
      refine fr_iload_n (pc := 97) dX8_read_97 2 rfl rfl ?_
      exact vx_iretW (x := v3) (pc := 98) dX8_read_98 rfl hf
    · have hf := fd_f c1 hf
      refine fr_aload_n (pc := 47) dX8_read_47 0 rfl rfl ?_
      refine fr_aload_n (pc := 48) dX8_read_48 1 rfl rfl ?_
      refine fr_getR (pc := 49) dX8_read_49 fl_X8_200 pv2.b pv2.s rfl ?_
      refine fr_iload (pc := 52) dX8_read_52 3 rfl ?_
      obtain ⟨r3, hc2, hf⟩ := fd_bi hf
      refine fr_callVi (pc := 54) (av := [.int v4]) dX8_read_54 yy_X3_at kw_113 pv2.row.b pv2.row.s rfl rfl rfl (Nat.le_of_ble_eq_true rfl) ⟨Nat.le_of_ble_eq_true rfl, Nat.le_of_ble_eq_true rfl, Nat.zero_le _, Nat.zero_le _⟩ (sX3_at pv2.row hc2) ?_
      refine fr_aload_n (pc := 57) dX8_read_57 1 rfl rfl ?_
      refine fr_getR (pc := 58) dX8_read_58 fl_X8_200 pv2.b pv2.s rfl ?_
      refine fr_iload (pc := 61) dX8_read_61 3 rfl ?_
      refine fr_iconst (pc := 63) (v := (1 : Int32)) dX8_read_63 (by decide) ?_
      refine fr_iadd (pc := 64) dX8_read_64 ?_
      obtain ⟨r5, hc4, hf⟩ := fd_bi hf
      refine fr_callVi (pc := 65) (av := [.int (v4 + (1 : Int32))]) dX8_read_65 yy_X3_at kw_113 pv2.row.b pv2.row.s rfl rfl rfl (Nat.le_of_ble_eq_true rfl) ⟨Nat.le_of_ble_eq_true rfl, Nat.le_of_ble_eq_true rfl, Nat.zero_le _, Nat.zero_le _⟩ (sX3_at pv2.row hc4) ?_
      refine fr_aload_n (pc := 68) dX8_read_68 1 rfl rfl ?_
      refine fr_getR (pc := 69) dX8_read_69 fl_X8_200 pv2.b pv2.s rfl ?_
      refine fr_iload (pc := 72) dX8_read_72 3 rfl ?_
      refine fr_iconst (pc := 74) (v := (2 : Int32)) dX8_read_74 (by decide) ?_
      refine fr_iadd (pc := 75) dX8_read_75 ?_
      obtain ⟨r7, hc6, hf⟩ := fd_bi hf
      refine fr_callVi (pc := 76) (av := [.int (v4 + (2 : Int32))]) dX8_read_76 yy_X3_at kw_113 pv2.row.b pv2.row.s rfl rfl rfl (Nat.le_of_ble_eq_true rfl) ⟨Nat.le_of_ble_eq_true rfl, Nat.le_of_ble_eq_true rfl, Nat.zero_le _, Nat.zero_le _⟩ (sX3_at pv2.row hc6) ?_
      obtain ⟨q9, hc8, hf⟩ := fd_bi hf
      refine fr_callVi (pc := 79) (av := [.int r3, .int r5, .int r7]) dX8_read_79 yy_X8_seen kw_309 (by decide) rfl rfl rfl rfl (Nat.le_of_ble_eq_true rfl) ⟨Nat.le_of_ble_eq_true rfl, Nat.le_of_ble_eq_true rfl, Nat.zero_le _, Nat.zero_le _⟩ (sX8_seen hc8) ?_
      refine fr_if_ge (pc := 82) 88 dX8_read_82 (by decide) (fun c10 => ?_) (fun c10 => ?_)
      · have hf := fd_t c10 hf
        refine fr_iinc (pc := 88) (v := (v3 + (1 : Int32))) (lv' := [(3, .int (v3 + (1 : Int32))), (0, .ref (g.2.2.2 + 0)), (2, .ref (g.2.2.2 + v2)), (4, .int v4)]) dX8_read_88 2 rfl rfl (by decide) rfl ?_
        refine fr_iinc (pc := 91) (v := (v4 + (3 : Int32))) (lv' := [(4, .int (v4 + (3 : Int32))), (3, .int (v3 + (1 : Int32))), (0, .ref (g.2.2.2 + 0)), (2, .ref (g.2.2.2 + v2))]) dX8_read_91 3 rfl rfl (by decide) rfl ?_
        refine fr_goto (pc := 94) 36 dX8_read_94 (by decide) ?_
        refine fr_loc (lv' := [(0, .ref (g.2.2.2 + 0)), (2, .ref (g.2.2.2 + v2)), (3, .int (v3 + (1 : Int32))), (4, .int (v4 + (3 : Int32)))]) [2, 3, 1, 0] rfl ?_
        exact ih _ _ _ _ pv2 hf
      · have hf := fd_f c10 hf
        refine fr_goto (pc := 85) 97 dX8_read_85 (by decide) ?_
        refine fr_iload_n (pc := 97) dX8_read_97 2 rfl rfl ?_
        exact vx_iretW (x := v3) (pc := 98) dX8_read_98 rfl hf
def fX8_read (a1 : Int32) (h : fd_H) : Option (Int32 × fd_H) :=
(fX8_isBelow a1 (4 : Int32)).bind fun r2 =>
if r2 = true then (
fd_g (fd_in a1 4) (
if (h.1 (61 + 3 * a1.toNatClampNeg) 1) = 0 then (
fX8_read_L36 a1 fd_fu (61 + 3 * a1.toNatClampNeg) (0 : Int32) (0 : Int32) h)
else (
(fX8_find (1 : Int32) h).bind fun q7 =>
some (q7.1, q7.2))))
else (
some ((-2 : Int32), h))
set_option maxRecDepth 100000 in
set_option maxHeartbeats 4000000 in
theorem sX8_read {g : fd_G} {hm : fd_H} {a1 : Int32} {r : Int32 × fd_H} {h : fd_H} (hf : fX8_read a1 h = some r) : fd_S g mX8_read 3 [.ref (g.2.2.2 + 0), .int a1] fd_X0 (fd_mx h hm) (some (.int r.1)) fd_X0 (fd_mx r.2 hm) 0 0 := by
  refine fd_S.of (by decide +kernel) (Nat.le_of_ble_eq_true rfl) ?_
  unfold fX8_read at hf
  refine fr_loc (lv' := [(0, .ref (g.2.2.2 + 0)), (1, .int a1)]) [0, 1] rfl ?_
  refine fr_iload_n (pc := 0) dX8_read_0 1 rfl rfl ?_
  refine fr_iconst (pc := 1) (v := (4 : Int32)) dX8_read_1 (by decide) ?_
  obtain ⟨r2, hc1, hf⟩ := fd_bi hf
  refine fr_callSz (pc := 2) (av := [.int a1, .int (4 : Int32)]) dX8_read_2 yy_X8_isBelow kw_111 rfl rfl (Nat.le_of_ble_eq_true rfl) ⟨Nat.le_of_ble_eq_true rfl, Nat.le_of_ble_eq_true rfl, Nat.zero_le _, Nat.zero_le _⟩ (sX8_isBelow hc1) ?_
  refine fr_bn (pc := 5) 11 dX8_read_5 (by decide) (fun c3 => ?_) (fun c3 => ?_)
  · have hf := fd_t c3 hf
    refine fr_aload_n (pc := 11) dX8_read_11 0 rfl rfl ?_
    refine fr_getR (pc := 12) dX8_read_12 fl_X8_54 (by decide) rfl rfl ?_
    refine fr_iload_n (pc := 15) dX8_read_15 1 rfl rfl ?_
    obtain ⟨g4, hf⟩ := fd_g_e hf
    refine fr_aaldS (pc := 16) dX8_read_16 (by decide) rfl g4 rfl ?_
    refine fr_astore_n (pc := 17) (lv' := [(2, .ref (g.2.2.2 + (61 + 3 * a1.toNatClampNeg))), (0, .ref (g.2.2.2 + 0)), (1, .int a1)]) dX8_read_17 rfl (by decide) rfl ?_
    refine fr_aload_n (pc := 18) dX8_read_18 0 rfl rfl ?_
    refine vx_getI (pc := 19) dX8_read_19 fl_X8_192 (fd_isSheetA g4).b (fd_isSheetA g4).x (fd_isSheetA g4).s rfl ?_
    refine fr_if_eq (pc := 22) 31 dX8_read_22 (by decide) (fun c5 => ?_) (fun c5 => ?_)
    · have hf := fd_t c5 hf
      refine fr_iconst (pc := 31) (v := (0 : Int32)) dX8_read_31 (by decide) ?_
      refine fr_istore_n (pc := 32) (lv' := [(3, .int (0 : Int32)), (2, .ref (g.2.2.2 + (61 + 3 * a1.toNatClampNeg))), (0, .ref (g.2.2.2 + 0)), (1, .int a1)]) dX8_read_32 rfl (by decide) rfl ?_
      refine fr_iconst (pc := 33) (v := (0 : Int32)) dX8_read_33 (by decide) ?_
      refine fr_istore (pc := 34) (lv' := [(4, .int (0 : Int32)), (3, .int (0 : Int32)), (2, .ref (g.2.2.2 + (61 + 3 * a1.toNatClampNeg))), (0, .ref (g.2.2.2 + 0)), (1, .int a1)]) dX8_read_34 (by decide) rfl ?_
      refine fr_loc (lv' := [(0, .ref (g.2.2.2 + 0)), (2, .ref (g.2.2.2 + (61 + 3 * a1.toNatClampNeg))), (3, .int (0 : Int32)), (4, .int (0 : Int32))]) [3, 2, 1, 0] rfl ?_
      exact sX8_read_L36 _  _ _ _ _ (fd_isSheetA g4) hf
    · have hf := fd_f c5 hf
      refine fr_aload_n (pc := 25) dX8_read_25 1 rfl rfl ?_
      refine fr_iconst (pc := 26) (v := (1 : Int32)) dX8_read_26 (by decide) ?_
      obtain ⟨q7, hc6, hf⟩ := fd_bi hf
      refine fr_callVi (pc := 27) (av := [.int (1 : Int32)]) dX8_read_27 yy_X8_find kw_129 (by decide) rfl rfl rfl rfl (Nat.le_of_ble_eq_true rfl) ⟨Nat.le_of_ble_eq_true rfl, Nat.le_of_ble_eq_true rfl, Nat.zero_le _, Nat.zero_le _⟩ (sX8_find hc6) ?_
      exact vx_iretW (x := q7.1) (pc := 30) dX8_read_30 rfl hf
  · have hf := fd_f c3 hf
    refine fr_bipush (pc := 8) (v := (-2 : Int32)) dX8_read_8 (by decide) ?_
    exact vx_iretW (x := (-2 : Int32)) (pc := 10) dX8_read_10 rfl hf
theorem dX8_was_0 : decode cX8_was 0 = .ok (.iload_n 1, 1) := by decide +kernel
theorem dX8_was_1 : decode cX8_was 1 = .ok (.aload_n 0, 1) := by decide +kernel
theorem dX8_was_2 : decode cX8_was 2 = .ok (.getfield 21, 3) := by decide +kernel
theorem dX8_was_5 : decode cX8_was 5 = .ok (.getfield 98, 3) := by decide +kernel
theorem dX8_was_8 : decode cX8_was 8 = .ok (.invokestatic 62, 3) := by decide +kernel
theorem dX8_was_11 : decode cX8_was 11 = .ok (.ifCond .ne 6, 3) := by decide +kernel
theorem dX8_was_14 : decode cX8_was 14 = .ok (.bipush (-2), 2) := by decide +kernel
theorem dX8_was_16 : decode cX8_was 16 = .ok (.ireturn, 1) := by decide +kernel
theorem dX8_was_17 : decode cX8_was 17 = .ok (.iconst 0, 1) := by decide +kernel
theorem dX8_was_18 : decode cX8_was 18 = .ok (.istore_n 2, 1) := by decide +kernel
theorem dX8_was_19 : decode cX8_was 19 = .ok (.iconst 0, 1) := by decide +kernel
theorem dX8_was_20 : decode cX8_was 20 = .ok (.istore_n 3, 1) := by decide +kernel
theorem dX8_was_21 : decode cX8_was 21 = .ok (.iload_n 3, 1) := by decide +kernel
theorem dX8_was_22 : decode cX8_was 22 = .ok (.bipush 26, 2) := by decide +kernel
theorem dX8_was_24 : decode cX8_was 24 = .ok (.if_icmp .ge 67, 3) := by decide +kernel
theorem dX8_was_27 : decode cX8_was 27 = .ok (.iconst 0, 1) := by decide +kernel
theorem dX8_was_28 : decode cX8_was 28 = .ok (.istore 4, 2) := by decide +kernel
theorem dX8_was_30 : decode cX8_was 30 = .ok (.iload 4, 2) := by decide +kernel
theorem dX8_was_32 : decode cX8_was 32 = .ok (.aload_n 0, 1) := by decide +kernel
theorem dX8_was_33 : decode cX8_was 33 = .ok (.getfield 29, 3) := by decide +kernel
theorem dX8_was_36 : decode cX8_was 36 = .ok (.getfield 150, 3) := by decide +kernel
theorem dX8_was_39 : decode cX8_was 39 = .ok (.if_icmp .ge 29, 3) := by decide +kernel
theorem dX8_was_42 : decode cX8_was 42 = .ok (.aload_n 0, 1) := by decide +kernel
theorem dX8_was_43 : decode cX8_was 43 = .ok (.getfield 47, 3) := by decide +kernel
theorem dX8_was_46 : decode cX8_was 46 = .ok (.iload 4, 2) := by decide +kernel
theorem dX8_was_48 : decode cX8_was 48 = .ok (.aload_n 0, 1) := by decide +kernel
theorem dX8_was_49 : decode cX8_was 49 = .ok (.getfield 21, 3) := by decide +kernel
theorem dX8_was_52 : decode cX8_was 52 = .ok (.iload 4, 2) := by decide +kernel
theorem dX8_was_54 : decode cX8_was 54 = .ok (.iload_n 1, 1) := by decide +kernel
theorem dX8_was_55 : decode cX8_was 55 = .ok (.iload_n 3, 1) := by decide +kernel
theorem dX8_was_56 : decode cX8_was 56 = .ok (.invokevirtual 206, 3) := by decide +kernel
theorem dX8_was_59 : decode cX8_was 59 = .ok (.invokevirtual 210, 3) := by decide +kernel
theorem dX8_was_62 : decode cX8_was 62 = .ok (.iinc 4 1, 3) := by decide +kernel
theorem dX8_was_65 : decode cX8_was 65 = .ok (.goto (-35), 3) := by decide +kernel
theorem dX8_was_68 : decode cX8_was 68 = .ok (.aload_n 0, 1) := by decide +kernel
theorem dX8_was_69 : decode cX8_was 69 = .ok (.aload_n 0, 1) := by decide +kernel
theorem dX8_was_70 : decode cX8_was 70 = .ok (.getfield 47, 3) := by decide +kernel
theorem dX8_was_73 : decode cX8_was 73 = .ok (.invokevirtual 214, 3) := by decide +kernel
theorem dX8_was_76 : decode cX8_was 76 = .ok (.ifCond .eq 9, 3) := by decide +kernel
theorem dX8_was_79 : decode cX8_was 79 = .ok (.iload_n 2, 1) := by decide +kernel
theorem dX8_was_80 : decode cX8_was 80 = .ok (.iconst 1, 1) := by decide +kernel
theorem dX8_was_81 : decode cX8_was 81 = .ok (.iload_n 3, 1) := by decide +kernel
theorem dX8_was_82 : decode cX8_was 82 = .ok (.ishl, 1) := by decide +kernel
theorem dX8_was_83 : decode cX8_was 83 = .ok (.ior, 1) := by decide +kernel
theorem dX8_was_84 : decode cX8_was 84 = .ok (.istore_n 2, 1) := by decide +kernel
theorem dX8_was_85 : decode cX8_was 85 = .ok (.iinc 3 1, 3) := by decide +kernel
theorem dX8_was_88 : decode cX8_was 88 = .ok (.goto (-67), 3) := by decide +kernel
theorem dX8_was_91 : decode cX8_was 91 = .ok (.iload_n 2, 1) := by decide +kernel
theorem dX8_was_92 : decode cX8_was 92 = .ok (.ireturn, 1) := by decide +kernel
def fX8_was_L30 (a1 : Int32) (K21 : Int32 → Int32 → fd_H → Option (Int32 × fd_H)) : Nat → Int32 → Int32 → Int32 → fd_H → Option (Int32 × fd_H)
  | 0 => fun _ _ _ _ => none
  | n + 1 => fun v2 v3 v4 h =>
if (h.1 12 3) ≤ v4 then (
(fX8_isAsSeen 58 h).bind fun r3 =>
if r3 = true then (
fd_lt ((v2 ||| ((1 : Int32) <<< (v3 &&& 31)))) fun x5 =>
K21 x5 (v3 + (1 : Int32)) h)
else (
K21 v2 (v3 + (1 : Int32)) h))
else (
(fX7_frostsIfWarm v4 a1 v3 h).bind fun r7 =>
(fX5_set 58 v4 r7 h).bind fun h9 =>
fX8_was_L30 a1 K21 n v2 v3 (v4 + (1 : Int32)) h9)
set_option maxRecDepth 100000 in
set_option maxHeartbeats 4000000 in
theorem sX8_was_L30 {g : fd_G} {hm : fd_H} {a1 : Int32} {r : Int32 × fd_H} {K21 : Int32 → Int32 → fd_H → Option (Int32 × fd_H)} (hK21 : ∀ (v2 : Int32) (v3 : Int32) (h : fd_H), K21 v2 v3 h = some r → fd_A g mX8_was fd_E (fd_rm 3 0 0) (fd_Q g (some (.int r.1)) fd_X0 (fd_mx r.2 hm) 0 0) 21 [(0, .ref (g.2.2.2 + 0)), (1, .int a1), (2, .int v2), (3, .int v3)] [] fd_X0 (fd_mx h hm) 0 0) : ∀ (n : Nat) (v2 : Int32) (v3 : Int32) (v4 : Int32) (h : fd_H), fX8_was_L30 a1 K21 n v2 v3 v4 h = some r → fd_A g mX8_was fd_E (fd_rm 3 0 0) (fd_Q g (some (.int r.1)) fd_X0 (fd_mx r.2 hm) 0 0) 30 [(0, .ref (g.2.2.2 + 0)), (1, .int a1), (2, .int v2), (3, .int v3), (4, .int v4)] [] fd_X0 (fd_mx h hm) 0 0 := by
  intro n
  induction n with
  | zero =>
    intro _ _ _ _ hf
    cases hf
  | succ n ih =>
    intro v2 v3 v4 h hf
    rw [fX8_was_L30] at hf
    refine fr_iload (pc := 30) dX8_was_30 4 rfl ?_
    refine fr_aload_n (pc := 32) dX8_was_32 0 rfl rfl ?_
    refine fr_getR (pc := 33) dX8_was_33 fl_X8_29 (by decide) rfl rfl ?_
    refine vx_getI (pc := 36) dX8_was_36 fl_X8_150 (by decide) (by decide) rfl rfl ?_
    refine fr_icmp_ge (pc := 39) 68 dX8_was_39 (by decide) (fun c1 => ?_) (fun c1 => ?_)
    · have hf := fd_t c1 hf
      refine fr_aload_n (pc := 68) dX8_was_68 0 rfl rfl ?_
      refine fr_aload_n (pc := 69) dX8_was_69 0 rfl rfl ?_
      refine fr_getR (pc := 70) dX8_was_70 fl_X8_47 (by decide) rfl rfl ?_
      obtain ⟨r3, hc2, hf⟩ := fd_bi hf
      refine fr_callVz (pc := 73) (av := [.ref (g.2.2.2 + 58)]) dX8_was_73 yy_X8_isAsSeen kw_314 (by decide) rfl rfl rfl rfl (Nat.le_of_ble_eq_true rfl) ⟨Nat.le_of_ble_eq_true rfl, Nat.le_of_ble_eq_true rfl, Nat.zero_le _, Nat.zero_le _⟩ (sX8_isAsSeen is_58 hc2) ?_
      refine fr_bz (pc := 76) 85 dX8_was_76 (by decide) (fun c4 => ?_) (fun c4 => ?_)
      · have hf := fd_f c4 hf
        refine fr_iinc (pc := 85) (v := (v3 + (1 : Int32))) (lv' := [(3, .int (v3 + (1 : Int32))), (0, .ref (g.2.2.2 + 0)), (1, .int a1), (2, .int v2), (4, .int v4)]) dX8_was_85 3 rfl rfl (by decide) rfl ?_
        refine fr_goto (pc := 88) 21 dX8_was_88 (by decide) ?_
        refine fr_loc (lv' := [(0, .ref (g.2.2.2 + 0)), (1, .int a1), (2, .int v2), (3, .int (v3 + (1 : Int32)))]) [1, 2, 3, 0] rfl ?_
        exact hK21 _ _ _ hf
      · have hf := fd_t c4 hf
        refine fr_iload_n (pc := 79) dX8_was_79 2 rfl rfl ?_
        refine fr_iconst (pc := 80) (v := (1 : Int32)) dX8_was_80 (by decide) ?_
        refine fr_iload_n (pc := 81) dX8_was_81 3 rfl rfl ?_
        refine fr_ishl (pc := 82) dX8_was_82 ?_
        refine fr_ior (pc := 83) dX8_was_83 ?_
        obtain ⟨x5, ex5, hf⟩ := fd_lt_e hf
        refine fr_nmi ex5 ?_
        refine fr_istore_n (pc := 84) (lv' := [(2, .int x5), (0, .ref (g.2.2.2 + 0)), (1, .int a1), (3, .int v3), (4, .int v4)]) dX8_was_84 rfl (by decide) rfl ?_
        refine fr_iinc (pc := 85) (v := (v3 + (1 : Int32))) (lv' := [(3, .int (v3 + (1 : Int32))), (2, .int x5), (0, .ref (g.2.2.2 + 0)), (1, .int a1), (4, .int v4)]) dX8_was_85 3 rfl rfl (by decide) rfl ?_
        refine fr_goto (pc := 88) 21 dX8_was_88 (by decide) ?_
        refine fr_loc (lv' := [(0, .ref (g.2.2.2 + 0)), (1, .int a1), (2, .int x5), (3, .int (v3 + (1 : Int32)))]) [2, 3, 1, 0] rfl ?_
        exact hK21 _ _ _ hf
    · have hf := fd_f c1 hf
      refine fr_aload_n (pc := 42) dX8_was_42 0 rfl rfl ?_
      refine fr_getR (pc := 43) dX8_was_43 fl_X8_47 (by decide) rfl rfl ?_
      refine fr_iload (pc := 46) dX8_was_46 4 rfl ?_
      refine fr_aload_n (pc := 48) dX8_was_48 0 rfl rfl ?_
      refine fr_getR (pc := 49) dX8_was_49 fl_X8_21 (by decide) rfl rfl ?_
      refine fr_iload (pc := 52) dX8_was_52 4 rfl ?_
      refine fr_iload_n (pc := 54) dX8_was_54 1 rfl rfl ?_
      refine fr_iload_n (pc := 55) dX8_was_55 3 rfl rfl ?_
      obtain ⟨r7, hc6, hf⟩ := fd_bi hf
      refine fr_callVl (pc := 56) (av := [.int v4, .int a1, .int v3]) dX8_was_56 yy_X7_frostsIfWarm kw_318 (by decide) rfl rfl rfl rfl (Nat.le_of_ble_eq_true rfl) ⟨Nat.le_of_ble_eq_true rfl, Nat.le_of_ble_eq_true rfl, Nat.zero_le _, Nat.zero_le _⟩ (sX7_frostsIfWarm hc6) ?_
      obtain ⟨h9, hc8, hf⟩ := fd_bi hf
      refine fr_callVv (pc := 59) (av := [.int v4, .long r7]) dX8_was_59 yy_X5_set kw_319 (by decide) rfl rfl rfl rfl (Nat.le_of_ble_eq_true rfl) ⟨Nat.le_of_ble_eq_true rfl, Nat.le_of_ble_eq_true rfl, Nat.zero_le _, Nat.zero_le _⟩ (sX5_set is_58 hc8) ?_
      refine fr_iinc (pc := 62) (v := (v4 + (1 : Int32))) (lv' := [(4, .int (v4 + (1 : Int32))), (0, .ref (g.2.2.2 + 0)), (1, .int a1), (2, .int v2), (3, .int v3)]) dX8_was_62 4 rfl rfl (by decide) rfl ?_
      refine fr_goto (pc := 65) 30 dX8_was_65 (by decide) ?_
      refine fr_loc (lv' := [(0, .ref (g.2.2.2 + 0)), (1, .int a1), (2, .int v2), (3, .int v3), (4, .int (v4 + (1 : Int32)))]) [1, 2, 3, 4, 0] rfl ?_
      exact ih _ _ _ _ hf
def fX8_was_L21 (a1 : Int32) : Nat → Int32 → Int32 → fd_H → Option (Int32 × fd_H)
  | 0 => fun _ _ _ => none
  | n + 1 => fun v2 v3 h =>
if (26 : Int32) ≤ v3 then (
some (v2, h))
else (
fX8_was_L30 a1 (fX8_was_L21 a1 n) fd_fu v2 v3 (0 : Int32) h)
set_option maxRecDepth 100000 in
set_option maxHeartbeats 4000000 in
theorem sX8_was_L21 {g : fd_G} {hm : fd_H} {a1 : Int32} {r : Int32 × fd_H} : ∀ (n : Nat) (v2 : Int32) (v3 : Int32) (h : fd_H), fX8_was_L21 a1 n v2 v3 h = some r → fd_A g mX8_was fd_E (fd_rm 3 0 0) (fd_Q g (some (.int r.1)) fd_X0 (fd_mx r.2 hm) 0 0) 21 [(0, .ref (g.2.2.2 + 0)), (1, .int a1), (2, .int v2), (3, .int v3)] [] fd_X0 (fd_mx h hm) 0 0 := by
  intro n
  induction n with
  | zero =>
    intro _ _ _ hf
    cases hf
  | succ n ih =>
    intro v2 v3 h hf
    rw [fX8_was_L21] at hf
    refine fr_iload_n (pc := 21) dX8_was_21 3 rfl rfl ?_
    refine fr_bipush (pc := 22) (v := (26 : Int32)) dX8_was_22 (by decide) ?_
    refine fr_icmp_ge (pc := 24) 91 dX8_was_24 (by decide) (fun c1 => ?_) (fun c1 => ?_)
    · have hf := fd_t c1 hf
      refine fr_iload_n (pc := 91) dX8_was_91 2 rfl rfl ?_
      exact vx_iretW (x := v2) (pc := 92) dX8_was_92 rfl hf
    · have hf := fd_f c1 hf
      refine fr_iconst (pc := 27) (v := (0 : Int32)) dX8_was_27 (by decide) ?_
      refine fr_istore (pc := 28) (lv' := [(4, .int (0 : Int32)), (0, .ref (g.2.2.2 + 0)), (1, .int a1), (2, .int v2), (3, .int v3)]) dX8_was_28 (by decide) rfl ?_
      refine fr_loc (lv' := [(0, .ref (g.2.2.2 + 0)), (1, .int a1), (2, .int v2), (3, .int v3), (4, .int (0 : Int32))]) [1, 2, 3, 4, 0] rfl ?_
      exact sX8_was_L30 ih _  _ _ _ _ hf
def fX8_was (a1 : Int32) (h : fd_H) : Option (Int32 × fd_H) :=
(fX8_isBelow a1 (h.1 11 5)).bind fun r2 =>
if r2 = true then (
fX8_was_L21 a1 fd_fu (0 : Int32) (0 : Int32) h)
else (
some ((-2 : Int32), h))
set_option maxRecDepth 100000 in
set_option maxHeartbeats 4000000 in
theorem sX8_was {g : fd_G} {hm : fd_H} {a1 : Int32} {r : Int32 × fd_H} {h : fd_H} (hf : fX8_was a1 h = some r) : fd_S g mX8_was 3 [.ref (g.2.2.2 + 0), .int a1] fd_X0 (fd_mx h hm) (some (.int r.1)) fd_X0 (fd_mx r.2 hm) 0 0 := by
  refine fd_S.of (by decide +kernel) (Nat.le_of_ble_eq_true rfl) ?_
  unfold fX8_was at hf
  refine fr_loc (lv' := [(0, .ref (g.2.2.2 + 0)), (1, .int a1)]) [0, 1] rfl ?_
  refine fr_iload_n (pc := 0) dX8_was_0 1 rfl rfl ?_
  refine fr_aload_n (pc := 1) dX8_was_1 0 rfl rfl ?_
  refine fr_getR (pc := 2) dX8_was_2 fl_X8_21 (by decide) rfl rfl ?_
  refine vx_getI (pc := 5) dX8_was_5 fl_X8_98 (by decide) (by decide) rfl rfl ?_
  obtain ⟨r2, hc1, hf⟩ := fd_bi hf
  refine fr_callSz (pc := 8) (av := [.int a1, .int (h.1 11 5)]) dX8_was_8 yy_X8_isBelow kw_111 rfl rfl (Nat.le_of_ble_eq_true rfl) ⟨Nat.le_of_ble_eq_true rfl, Nat.le_of_ble_eq_true rfl, Nat.zero_le _, Nat.zero_le _⟩ (sX8_isBelow hc1) ?_
  refine fr_bn (pc := 11) 17 dX8_was_11 (by decide) (fun c3 => ?_) (fun c3 => ?_)
  · have hf := fd_t c3 hf
    refine fr_iconst (pc := 17) (v := (0 : Int32)) dX8_was_17 (by decide) ?_
    refine fr_istore_n (pc := 18) (lv' := [(2, .int (0 : Int32)), (0, .ref (g.2.2.2 + 0)), (1, .int a1)]) dX8_was_18 rfl (by decide) rfl ?_
    refine fr_iconst (pc := 19) (v := (0 : Int32)) dX8_was_19 (by decide) ?_
    refine fr_istore_n (pc := 20) (lv' := [(3, .int (0 : Int32)), (2, .int (0 : Int32)), (0, .ref (g.2.2.2 + 0)), (1, .int a1)]) dX8_was_20 rfl (by decide) rfl ?_
    refine fr_loc (lv' := [(0, .ref (g.2.2.2 + 0)), (1, .int a1), (2, .int (0 : Int32)), (3, .int (0 : Int32))]) [2, 3, 1, 0] rfl ?_
    exact sX8_was_L21 _  _ _ _ hf
  · have hf := fd_f c3 hf
    refine fr_bipush (pc := 14) (v := (-2 : Int32)) dX8_was_14 (by decide) ?_
    exact vx_iretW (x := (-2 : Int32)) (pc := 16) dX8_was_16 rfl hf
theorem dX8_chance_0 : decode cX8_chance 0 = .ok (.iload_n 1, 1) := by decide +kernel
theorem dX8_chance_1 : decode cX8_chance 1 = .ok (.ifCond .lt 38, 3) := by decide +kernel
theorem dX8_chance_4 : decode cX8_chance 4 = .ok (.iload_n 1, 1) := by decide +kernel
theorem dX8_chance_5 : decode cX8_chance 5 = .ok (.bipush 16, 2) := by decide +kernel
theorem dX8_chance_7 : decode cX8_chance 7 = .ok (.if_icmp .gt 32, 3) := by decide +kernel
theorem dX8_chance_10 : decode cX8_chance 10 = .ok (.aload_n 0, 1) := by decide +kernel
theorem dX8_chance_11 : decode cX8_chance 11 = .ok (.getfield 29, 3) := by decide +kernel
theorem dX8_chance_14 : decode cX8_chance 14 = .ok (.iload_n 2, 1) := by decide +kernel
theorem dX8_chance_15 : decode cX8_chance 15 = .ok (.invokevirtual 80, 3) := by decide +kernel
theorem dX8_chance_18 : decode cX8_chance 18 = .ok (.ifCond .eq 21, 3) := by decide +kernel
theorem dX8_chance_21 : decode cX8_chance 21 = .ok (.iload_n 3, 1) := by decide +kernel
theorem dX8_chance_22 : decode cX8_chance 22 = .ok (.bipush 12, 2) := by decide +kernel
theorem dX8_chance_24 : decode cX8_chance 24 = .ok (.invokestatic 62, 3) := by decide +kernel
theorem dX8_chance_27 : decode cX8_chance 27 = .ok (.ifCond .eq 12, 3) := by decide +kernel
theorem dX8_chance_30 : decode cX8_chance 30 = .ok (.iload 4, 2) := by decide +kernel
theorem dX8_chance_32 : decode cX8_chance 32 = .ok (.iconst 2, 1) := by decide +kernel
theorem dX8_chance_33 : decode cX8_chance 33 = .ok (.invokestatic 62, 3) := by decide +kernel
theorem dX8_chance_36 : decode cX8_chance 36 = .ok (.ifCond .ne 7, 3) := by decide +kernel
theorem dX8_chance_39 : decode cX8_chance 39 = .ok (.ldc2_w 228, 3) := by decide +kernel
theorem dX8_chance_42 : decode cX8_chance 42 = .ok (.lreturn, 1) := by decide +kernel
theorem dX8_chance_43 : decode cX8_chance 43 = .ok (.aload_n 0, 1) := by decide +kernel
theorem dX8_chance_44 : decode cX8_chance 44 = .ok (.getfield 21, 3) := by decide +kernel
theorem dX8_chance_47 : decode cX8_chance 47 = .ok (.getfield 134, 3) := by decide +kernel
theorem dX8_chance_50 : decode cX8_chance 50 = .ok (.iload_n 2, 1) := by decide +kernel
theorem dX8_chance_51 : decode cX8_chance 51 = .ok (.iload_n 3, 1) := by decide +kernel
theorem dX8_chance_52 : decode cX8_chance 52 = .ok (.invokevirtual 151, 3) := by decide +kernel
theorem dX8_chance_55 : decode cX8_chance 55 = .ok (.ifCond .eq 5, 3) := by decide +kernel
theorem dX8_chance_58 : decode cX8_chance 58 = .ok (.lconst 1, 1) := by decide +kernel
theorem dX8_chance_59 : decode cX8_chance 59 = .ok (.lreturn, 1) := by decide +kernel
theorem dX8_chance_60 : decode cX8_chance 60 = .ok (.aload_n 0, 1) := by decide +kernel
theorem dX8_chance_61 : decode cX8_chance 61 = .ok (.getfield 21, 3) := by decide +kernel
theorem dX8_chance_64 : decode cX8_chance 64 = .ok (.iload_n 2, 1) := by decide +kernel
theorem dX8_chance_65 : decode cX8_chance 65 = .ok (.lconst 0, 1) := by decide +kernel
theorem dX8_chance_66 : decode cX8_chance 66 = .ok (.lconst 0, 1) := by decide +kernel
theorem dX8_chance_67 : decode cX8_chance 67 = .ok (.invokevirtual 230, 3) := by decide +kernel
theorem dX8_chance_70 : decode cX8_chance 70 = .ok (.iload_n 3, 1) := by decide +kernel
theorem dX8_chance_71 : decode cX8_chance 71 = .ok (.invokestatic 176, 3) := by decide +kernel
theorem dX8_chance_74 : decode cX8_chance 74 = .ok (.land, 1) := by decide +kernel
theorem dX8_chance_75 : decode cX8_chance 75 = .ok (.invokestatic 183, 3) := by decide +kernel
theorem dX8_chance_78 : decode cX8_chance 78 = .ok (.istore 5, 2) := by decide +kernel
theorem dX8_chance_80 : decode cX8_chance 80 = .ok (.bipush 16, 2) := by decide +kernel
theorem dX8_chance_82 : decode cX8_chance 82 = .ok (.iload 5, 2) := by decide +kernel
theorem dX8_chance_84 : decode cX8_chance 84 = .ok (.invokestatic 234, 3) := by decide +kernel
theorem dX8_chance_87 : decode cX8_chance 87 = .ok (.iload_n 1, 1) := by decide +kernel
theorem dX8_chance_88 : decode cX8_chance 88 = .ok (.iload 5, 2) := by decide +kernel
theorem dX8_chance_90 : decode cX8_chance 90 = .ok (.invokestatic 234, 3) := by decide +kernel
theorem dX8_chance_93 : decode cX8_chance 93 = .ok (.lsub, 1) := by decide +kernel
theorem dX8_chance_94 : decode cX8_chance 94 = .ok (.bipush 16, 2) := by decide +kernel
theorem dX8_chance_96 : decode cX8_chance 96 = .ok (.iload 5, 2) := by decide +kernel
theorem dX8_chance_98 : decode cX8_chance 98 = .ok (.invokestatic 234, 3) := by decide +kernel
theorem dX8_chance_101 : decode cX8_chance 101 = .ok (.iload 4, 2) := by decide +kernel
theorem dX8_chance_103 : decode cX8_chance 103 = .ok (.invokestatic 237, 3) := by decide +kernel
theorem dX8_chance_106 : decode cX8_chance 106 = .ok (.lreturn, 1) := by decide +kernel
def fX8_chance_L39 (a1 : Int32) (a2 : Int32) (a3 : Int32) (a4 : Int32) (h : fd_H)  : Option (Int64) :=
some ((-9223372036854775806 : Int64))
set_option maxRecDepth 100000 in
set_option maxHeartbeats 4000000 in
theorem sX8_chance_L39 {g : fd_G} {hm : fd_H} {a1 : Int32} {a2 : Int32} {a3 : Int32} {a4 : Int32} {h : fd_H} {r : Int64} : fX8_chance_L39 a1 a2 a3 a4 h  = some r → fd_A g mX8_chance fd_E (fd_rm 3 0 0) (fd_Q g (some (.long r)) fd_X0 (fd_mx h hm) 0 0) 39 [] [] fd_X0 (fd_mx h hm) 0 0 := by
  intro  hf
  unfold fX8_chance_L39 at hf
  refine fr_ldc2 (pc := 39) (v := (-9223372036854775806 : Int64)) dX8_chance_39 kw_327 ?_
  exact fr_lretP (x := (-9223372036854775806 : Int64)) (pc := 42) dX8_chance_42 rfl hf
def fX8_chance (a1 : Int32) (a2 : Int32) (a3 : Int32) (a4 : Int32) (h : fd_H) : Option (Int64) :=
if a1 < 0 then (
fX8_chance_L39 a1 a2 a3 a4 h )
else (
if (16 : Int32) < a1 then (
fX8_chance_L39 a1 a2 a3 a4 h )
else (
(fX2_has a2 h).bind fun r4 =>
if r4 = true then (
(fX8_isBelow a3 (12 : Int32)).bind fun r7 =>
if r7 = true then (
(fX8_isBelow a4 (2 : Int32)).bind fun r10 =>
if r10 = true then (
(fX5_isBy 44 a2 a3 h).bind fun r13 =>
if r13 = true then (
some ((1 : Int64)))
else (
(fX7_frostNights a2 (0 : Int64) (0 : Int64) h).bind fun r16 =>
(fX8_bitsUpTo a3).bind fun r18 =>
(fJ13_bitCount_95d88 (r16 &&& r18)).bind fun r20 =>
(fX8_power (16 : Int32) r20).bind fun r22 =>
(fX8_power a1 r20).bind fun r24 =>
(fX8_power (16 : Int32) r20).bind fun r26 =>
(fX8_lowestTerm (r22 - r24) r26 a4).bind fun r28 =>
some (r28)))
else (
fX8_chance_L39 a1 a2 a3 a4 h ))
else (
fX8_chance_L39 a1 a2 a3 a4 h ))
else (
fX8_chance_L39 a1 a2 a3 a4 h )))
set_option maxRecDepth 100000 in
set_option maxHeartbeats 4000000 in
theorem sX8_chance {g : fd_G} {hm : fd_H} {a1 : Int32} {a2 : Int32} {a3 : Int32} {a4 : Int32} {h : fd_H} {r : Int64} (hf : fX8_chance a1 a2 a3 a4 h = some r) : fd_S g mX8_chance 3 [.ref (g.2.2.2 + 0), .int a1, .int a2, .int a3, .int a4] fd_X0 (fd_mx h hm) (some (.long r)) fd_X0 (fd_mx h hm) 0 0 := by
  refine fd_S.of (by decide +kernel) (Nat.le_of_ble_eq_true rfl) ?_
  unfold fX8_chance at hf
  refine fr_loc (lv' := [(0, .ref (g.2.2.2 + 0)), (1, .int a1), (2, .int a2), (3, .int a3), (4, .int a4)]) [0, 1, 2, 3, 4] rfl ?_
  refine fr_iload_n (pc := 0) dX8_chance_0 1 rfl rfl ?_
  refine fr_if_lt (pc := 1) 39 dX8_chance_1 (by decide) (fun c1 => ?_) (fun c1 => ?_)
  · have hf := fd_t c1 hf
    refine fr_loc (lv' := []) [] rfl ?_
    exact sX8_chance_L39   hf
  · have hf := fd_f c1 hf
    refine fr_iload_n (pc := 4) dX8_chance_4 1 rfl rfl ?_
    refine fr_bipush (pc := 5) (v := (16 : Int32)) dX8_chance_5 (by decide) ?_
    refine fr_icmp_gt (pc := 7) 39 dX8_chance_7 (by decide) (fun c2 => ?_) (fun c2 => ?_)
    · have hf := fd_t c2 hf
      refine fr_loc (lv' := []) [] rfl ?_
      exact sX8_chance_L39   hf
    · have hf := fd_f c2 hf
      refine fr_aload_n (pc := 10) dX8_chance_10 0 rfl rfl ?_
      refine fr_getR (pc := 11) dX8_chance_11 fl_X8_29 (by decide) rfl rfl ?_
      refine fr_iload_n (pc := 14) dX8_chance_14 2 rfl rfl ?_
      obtain ⟨r4, hc3, hf⟩ := fd_bi hf
      refine fr_callVz (pc := 15) (av := [.int a2]) dX8_chance_15 yy_X2_has kw_108 (by decide) rfl rfl rfl rfl (Nat.le_of_ble_eq_true rfl) ⟨Nat.le_of_ble_eq_true rfl, Nat.le_of_ble_eq_true rfl, Nat.zero_le _, Nat.zero_le _⟩ (sX2_has hc3) ?_
      refine fr_bz (pc := 18) 39 dX8_chance_18 (by decide) (fun c5 => ?_) (fun c5 => ?_)
      · have hf := fd_f c5 hf
        refine fr_loc (lv' := []) [] rfl ?_
        exact sX8_chance_L39   hf
      · have hf := fd_t c5 hf
        refine fr_iload_n (pc := 21) dX8_chance_21 3 rfl rfl ?_
        refine fr_bipush (pc := 22) (v := (12 : Int32)) dX8_chance_22 (by decide) ?_
        obtain ⟨r7, hc6, hf⟩ := fd_bi hf
        refine fr_callSz (pc := 24) (av := [.int a3, .int (12 : Int32)]) dX8_chance_24 yy_X8_isBelow kw_111 rfl rfl (Nat.le_of_ble_eq_true rfl) ⟨Nat.le_of_ble_eq_true rfl, Nat.le_of_ble_eq_true rfl, Nat.zero_le _, Nat.zero_le _⟩ (sX8_isBelow hc6) ?_
        refine fr_bz (pc := 27) 39 dX8_chance_27 (by decide) (fun c8 => ?_) (fun c8 => ?_)
        · have hf := fd_f c8 hf
          refine fr_loc (lv' := []) [] rfl ?_
          exact sX8_chance_L39   hf
        · have hf := fd_t c8 hf
          refine fr_iload (pc := 30) dX8_chance_30 4 rfl ?_
          refine fr_iconst (pc := 32) (v := (2 : Int32)) dX8_chance_32 (by decide) ?_
          obtain ⟨r10, hc9, hf⟩ := fd_bi hf
          refine fr_callSz (pc := 33) (av := [.int a4, .int (2 : Int32)]) dX8_chance_33 yy_X8_isBelow kw_111 rfl rfl (Nat.le_of_ble_eq_true rfl) ⟨Nat.le_of_ble_eq_true rfl, Nat.le_of_ble_eq_true rfl, Nat.zero_le _, Nat.zero_le _⟩ (sX8_isBelow hc9) ?_
          refine fr_bn (pc := 36) 43 dX8_chance_36 (by decide) (fun c11 => ?_) (fun c11 => ?_)
          · have hf := fd_t c11 hf
            refine fr_aload_n (pc := 43) dX8_chance_43 0 rfl rfl ?_
            refine fr_getR (pc := 44) dX8_chance_44 fl_X8_21 (by decide) rfl rfl ?_
            refine fr_getR (pc := 47) dX8_chance_47 fl_X8_134 (by decide) rfl rfl ?_
            refine fr_iload_n (pc := 50) dX8_chance_50 2 rfl rfl ?_
            refine fr_iload_n (pc := 51) dX8_chance_51 3 rfl rfl ?_
            obtain ⟨r13, hc12, hf⟩ := fd_bi hf
            refine fr_callVz (pc := 52) (av := [.int a2, .int a3]) dX8_chance_52 yy_X5_isBy kw_199 (by decide) rfl rfl rfl rfl (Nat.le_of_ble_eq_true rfl) ⟨Nat.le_of_ble_eq_true rfl, Nat.le_of_ble_eq_true rfl, Nat.zero_le _, Nat.zero_le _⟩ (sX5_isBy is_44 hc12) ?_
            refine fr_bz (pc := 55) 60 dX8_chance_55 (by decide) (fun c14 => ?_) (fun c14 => ?_)
            · have hf := fd_f c14 hf
              refine fr_aload_n (pc := 60) dX8_chance_60 0 rfl rfl ?_
              refine fr_getR (pc := 61) dX8_chance_61 fl_X8_21 (by decide) rfl rfl ?_
              refine fr_iload_n (pc := 64) dX8_chance_64 2 rfl rfl ?_
              refine fr_lconst (pc := 65) (v := (0 : Int64)) dX8_chance_65 (by decide) ?_
              refine fr_lconst (pc := 66) (v := (0 : Int64)) dX8_chance_66 (by decide) ?_
              obtain ⟨r16, hc15, hf⟩ := fd_bi hf
              refine fr_callVl (pc := 67) (av := [.int a2, .long (0 : Int64), .long (0 : Int64)]) dX8_chance_67 yy_X7_frostNights kw_320 (by decide) rfl rfl rfl rfl (Nat.le_of_ble_eq_true rfl) ⟨Nat.le_of_ble_eq_true rfl, Nat.le_of_ble_eq_true rfl, Nat.zero_le _, Nat.zero_le _⟩ (sX7_frostNights hc15) ?_
              refine fr_iload_n (pc := 70) dX8_chance_70 3 rfl rfl ?_
              obtain ⟨r18, hc17, hf⟩ := fd_bi hf
              refine fr_callSl (pc := 71) (av := [.int a3]) dX8_chance_71 yy_X8_bitsUpTo kw_203 rfl rfl (Nat.le_of_ble_eq_true rfl) ⟨Nat.le_of_ble_eq_true rfl, Nat.le_of_ble_eq_true rfl, Nat.zero_le _, Nat.zero_le _⟩ (sX8_bitsUpTo hc17) ?_
              refine fr_land (pc := 74) dX8_chance_74 ?_
              obtain ⟨r20, hc19, hf⟩ := fd_bi hf
              refine fr_callSi (pc := 75) (av := [.long (r16 &&& r18)]) dX8_chance_75 yy_J13_bitCount_95d88 kw_144 rfl rfl (Nat.le_of_ble_eq_true rfl) ⟨Nat.le_of_ble_eq_true rfl, Nat.le_of_ble_eq_true rfl, Nat.zero_le _, Nat.zero_le _⟩ (sJ13_bitCount_95d88 hc19) ?_
              refine fr_istore (pc := 78) (lv' := [(5, .int r20), (0, .ref (g.2.2.2 + 0)), (1, .int a1), (2, .int a2), (3, .int a3), (4, .int a4)]) dX8_chance_78 (by decide) rfl ?_
              refine fr_bipush (pc := 80) (v := (16 : Int32)) dX8_chance_80 (by decide) ?_
              refine fr_iload (pc := 82) dX8_chance_82 0 rfl ?_
              obtain ⟨r22, hc21, hf⟩ := fd_bi hf
              refine fr_callSl (pc := 84) (av := [.int (16 : Int32), .int r20]) dX8_chance_84 yy_X8_power kw_323 rfl rfl (Nat.le_of_ble_eq_true rfl) ⟨Nat.le_of_ble_eq_true rfl, Nat.le_of_ble_eq_true rfl, Nat.zero_le _, Nat.zero_le _⟩ (sX8_power hc21) ?_
              refine fr_iload_n (pc := 87) dX8_chance_87 2 rfl rfl ?_
              refine fr_iload (pc := 88) dX8_chance_88 0 rfl ?_
              obtain ⟨r24, hc23, hf⟩ := fd_bi hf
              refine fr_callSl (pc := 90) (av := [.int a1, .int r20]) dX8_chance_90 yy_X8_power kw_323 rfl rfl (Nat.le_of_ble_eq_true rfl) ⟨Nat.le_of_ble_eq_true rfl, Nat.le_of_ble_eq_true rfl, Nat.zero_le _, Nat.zero_le _⟩ (sX8_power hc23) ?_
              refine fr_lsub (pc := 93) dX8_chance_93 ?_
              refine fr_bipush (pc := 94) (v := (16 : Int32)) dX8_chance_94 (by decide) ?_
              refine fr_iload (pc := 96) dX8_chance_96 0 rfl ?_
              obtain ⟨r26, hc25, hf⟩ := fd_bi hf
              refine fr_callSl (pc := 98) (av := [.int (16 : Int32), .int r20]) dX8_chance_98 yy_X8_power kw_323 rfl rfl (Nat.le_of_ble_eq_true rfl) ⟨Nat.le_of_ble_eq_true rfl, Nat.le_of_ble_eq_true rfl, Nat.zero_le _, Nat.zero_le _⟩ (sX8_power hc25) ?_
              refine fr_iload (pc := 101) dX8_chance_101 5 rfl ?_
              obtain ⟨r28, hc27, hf⟩ := fd_bi hf
              refine fr_callSl (pc := 103) (av := [.long (r22 - r24), .long r26, .int a4]) dX8_chance_103 yy_X8_lowestTerm kw_326 rfl rfl (Nat.le_of_ble_eq_true rfl) ⟨Nat.le_of_ble_eq_true rfl, Nat.le_of_ble_eq_true rfl, Nat.zero_le _, Nat.zero_le _⟩ (sX8_lowestTerm hc27) ?_
              exact fr_lretP (x := r28) (pc := 106) dX8_chance_106 rfl hf
            · have hf := fd_t c14 hf
              refine fr_lconst (pc := 58) (v := (1 : Int64)) dX8_chance_58 (by decide) ?_
              exact fr_lretP (x := (1 : Int64)) (pc := 59) dX8_chance_59 rfl hf
          · have hf := fd_f c11 hf
            refine fr_loc (lv' := []) [] rfl ?_
            exact sX8_chance_L39   hf
theorem dX8_year_0 : decode cX8_year 0 = .ok (.iload_n 2, 1) := by decide +kernel
theorem dX8_year_1 : decode cX8_year 1 = .ok (.iconst (-1), 1) := by decide +kernel
theorem dX8_year_2 : decode cX8_year 2 = .ok (.if_icmp .eq 17, 3) := by decide +kernel
theorem dX8_year_5 : decode cX8_year 5 = .ok (.aload_n 0, 1) := by decide +kernel
theorem dX8_year_6 : decode cX8_year 6 = .ok (.getfield 29, 3) := by decide +kernel
theorem dX8_year_9 : decode cX8_year 9 = .ok (.iload_n 2, 1) := by decide +kernel
theorem dX8_year_10 : decode cX8_year 10 = .ok (.invokevirtual 80, 3) := by decide +kernel
theorem dX8_year_13 : decode cX8_year 13 = .ok (.ifCond .ne 6, 3) := by decide +kernel
theorem dX8_year_16 : decode cX8_year 16 = .ok (.bipush (-2), 2) := by decide +kernel
theorem dX8_year_18 : decode cX8_year 18 = .ok (.ireturn, 1) := by decide +kernel
theorem dX8_year_19 : decode cX8_year 19 = .ok (.aload_n 0, 1) := by decide +kernel
theorem dX8_year_20 : decode cX8_year 20 = .ok (.iload_n 1, 1) := by decide +kernel
theorem dX8_year_21 : decode cX8_year 21 = .ok (.invokevirtual 241, 3) := by decide +kernel
theorem dX8_year_24 : decode cX8_year 24 = .ok (.lstore_n 3, 1) := by decide +kernel
theorem dX8_year_25 : decode cX8_year 25 = .ok (.iconst 0, 1) := by decide +kernel
theorem dX8_year_26 : decode cX8_year 26 = .ok (.istore 5, 2) := by decide +kernel
theorem dX8_year_28 : decode cX8_year 28 = .ok (.iload 5, 2) := by decide +kernel
theorem dX8_year_30 : decode cX8_year 30 = .ok (.aload_n 0, 1) := by decide +kernel
theorem dX8_year_31 : decode cX8_year 31 = .ok (.getfield 29, 3) := by decide +kernel
theorem dX8_year_34 : decode cX8_year 34 = .ok (.getfield 150, 3) := by decide +kernel
theorem dX8_year_37 : decode cX8_year 37 = .ok (.if_icmp .ge 40, 3) := by decide +kernel
theorem dX8_year_40 : decode cX8_year 40 = .ok (.aload_n 0, 1) := by decide +kernel
theorem dX8_year_41 : decode cX8_year 41 = .ok (.getfield 47, 3) := by decide +kernel
theorem dX8_year_44 : decode cX8_year 44 = .ok (.iload 5, 2) := by decide +kernel
theorem dX8_year_46 : decode cX8_year 46 = .ok (.aload_n 0, 1) := by decide +kernel
theorem dX8_year_47 : decode cX8_year 47 = .ok (.getfield 21, 3) := by decide +kernel
theorem dX8_year_50 : decode cX8_year 50 = .ok (.iload 5, 2) := by decide +kernel
theorem dX8_year_52 : decode cX8_year 52 = .ok (.lload_n 3, 1) := by decide +kernel
theorem dX8_year_53 : decode cX8_year 53 = .ok (.aload_n 0, 1) := by decide +kernel
theorem dX8_year_54 : decode cX8_year 54 = .ok (.getfield 21, 3) := by decide +kernel
theorem dX8_year_57 : decode cX8_year 57 = .ok (.getfield 134, 3) := by decide +kernel
theorem dX8_year_60 : decode cX8_year 60 = .ok (.iload 5, 2) := by decide +kernel
theorem dX8_year_62 : decode cX8_year 62 = .ok (.invokevirtual 137, 3) := by decide +kernel
theorem dX8_year_65 : decode cX8_year 65 = .ok (.invokevirtual 230, 3) := by decide +kernel
theorem dX8_year_68 : decode cX8_year 68 = .ok (.invokevirtual 210, 3) := by decide +kernel
theorem dX8_year_71 : decode cX8_year 71 = .ok (.iinc 5 1, 3) := by decide +kernel
theorem dX8_year_74 : decode cX8_year 74 = .ok (.goto (-46), 3) := by decide +kernel
theorem dX8_year_77 : decode cX8_year 77 = .ok (.iload_n 2, 1) := by decide +kernel
theorem dX8_year_78 : decode cX8_year 78 = .ok (.iconst (-1), 1) := by decide +kernel
theorem dX8_year_79 : decode cX8_year 79 = .ok (.if_icmp .eq 12, 3) := by decide +kernel
theorem dX8_year_82 : decode cX8_year 82 = .ok (.aload_n 0, 1) := by decide +kernel
theorem dX8_year_83 : decode cX8_year 83 = .ok (.getfield 47, 3) := by decide +kernel
theorem dX8_year_86 : decode cX8_year 86 = .ok (.iload_n 2, 1) := by decide +kernel
theorem dX8_year_87 : decode cX8_year 87 = .ok (.invokevirtual 147, 3) := by decide +kernel
theorem dX8_year_90 : decode cX8_year 90 = .ok (.ireturn, 1) := by decide +kernel
theorem dX8_year_91 : decode cX8_year 91 = .ok (.iconst 0, 1) := by decide +kernel
theorem dX8_year_92 : decode cX8_year 92 = .ok (.istore 5, 2) := by decide +kernel
theorem dX8_year_94 : decode cX8_year 94 = .ok (.iconst 0, 1) := by decide +kernel
theorem dX8_year_95 : decode cX8_year 95 = .ok (.istore 6, 2) := by decide +kernel
theorem dX8_year_97 : decode cX8_year 97 = .ok (.iload 6, 2) := by decide +kernel
theorem dX8_year_99 : decode cX8_year 99 = .ok (.aload_n 0, 1) := by decide +kernel
theorem dX8_year_100 : decode cX8_year 100 = .ok (.getfield 33, 3) := by decide +kernel
theorem dX8_year_103 : decode cX8_year 103 = .ok (.getfield 104, 3) := by decide +kernel
theorem dX8_year_106 : decode cX8_year 106 = .ok (.if_icmp .ge 27, 3) := by decide +kernel
theorem dX8_year_109 : decode cX8_year 109 = .ok (.aload_n 0, 1) := by decide +kernel
theorem dX8_year_110 : decode cX8_year 110 = .ok (.iload 6, 2) := by decide +kernel
theorem dX8_year_112 : decode cX8_year 112 = .ok (.bipush 39, 2) := by decide +kernel
theorem dX8_year_114 : decode cX8_year 114 = .ok (.aload_n 0, 1) := by decide +kernel
theorem dX8_year_115 : decode cX8_year 115 = .ok (.getfield 47, 3) := by decide +kernel
theorem dX8_year_118 : decode cX8_year 118 = .ok (.invokevirtual 154, 3) := by decide +kernel
theorem dX8_year_121 : decode cX8_year 121 = .ok (.ifCond .eq 6, 3) := by decide +kernel
theorem dX8_year_124 : decode cX8_year 124 = .ok (.iinc 5 1, 3) := by decide +kernel
theorem dX8_year_127 : decode cX8_year 127 = .ok (.iinc 6 1, 3) := by decide +kernel
theorem dX8_year_130 : decode cX8_year 130 = .ok (.goto (-33), 3) := by decide +kernel
theorem dX8_year_133 : decode cX8_year 133 = .ok (.iload 5, 2) := by decide +kernel
theorem dX8_year_135 : decode cX8_year 135 = .ok (.ireturn, 1) := by decide +kernel
def fX8_year_L97 (a1 : Int32) (a2 : Int32) : Nat → Int32 → Int32 → fd_H → Option (Int32 × fd_H)
  | 0 => fun _ _ _ => none
  | n + 1 => fun v5 v6 h =>
if (h.1 48 1) ≤ v6 then (
some (v5, h))
else (
(fX8_isStanding v6 (39 : Int32) 58 h).bind fun r3 =>
if r3 = true then (
fX8_year_L97 a1 a2 n (v5 + (1 : Int32)) (v6 + (1 : Int32)) h)
else (
fX8_year_L97 a1 a2 n v5 (v6 + (1 : Int32)) h))
set_option maxRecDepth 100000 in
set_option maxHeartbeats 4000000 in
theorem sX8_year_L97 {g : fd_G} {hm : fd_H} {a1 : Int32} {a2 : Int32} {r : Int32 × fd_H} : ∀ (n : Nat) (v5 : Int32) (v6 : Int32) (h : fd_H), fX8_year_L97 a1 a2 n v5 v6 h = some r → fd_A g mX8_year fd_E (fd_rm 3 0 0) (fd_Q g (some (.int r.1)) fd_X0 (fd_mx r.2 hm) 0 0) 97 [(0, .ref (g.2.2.2 + 0)), (5, .int v5), (6, .int v6)] [] fd_X0 (fd_mx h hm) 0 0 := by
  intro n
  induction n with
  | zero =>
    intro _ _ _ hf
    cases hf
  | succ n ih =>
    intro v5 v6 h hf
    rw [fX8_year_L97] at hf
    refine fr_iload (pc := 97) dX8_year_97 2 rfl ?_
    refine fr_aload_n (pc := 99) dX8_year_99 0 rfl rfl ?_
    refine fr_getR (pc := 100) dX8_year_100 fl_X8_33 (by decide) rfl rfl ?_
    refine vx_getI (pc := 103) dX8_year_103 fl_X8_104 (by decide) (by decide) rfl rfl ?_
    refine fr_icmp_ge (pc := 106) 133 dX8_year_106 (by decide) (fun c1 => ?_) (fun c1 => ?_)
    · have hf := fd_t c1 hf
      refine fr_iload (pc := 133) dX8_year_133 1 rfl ?_
      exact vx_iretW (x := v5) (pc := 135) dX8_year_135 rfl hf
    · have hf := fd_f c1 hf
      refine fr_aload_n (pc := 109) dX8_year_109 0 rfl rfl ?_
      refine fr_iload (pc := 110) dX8_year_110 2 rfl ?_
      refine fr_bipush (pc := 112) (v := (39 : Int32)) dX8_year_112 (by decide) ?_
      refine fr_aload_n (pc := 114) dX8_year_114 0 rfl rfl ?_
      refine fr_getR (pc := 115) dX8_year_115 fl_X8_47 (by decide) rfl rfl ?_
      obtain ⟨r3, hc2, hf⟩ := fd_bi hf
      refine fr_callVz (pc := 118) (av := [.int v6, .int (39 : Int32), .ref (g.2.2.2 + 58)]) dX8_year_118 yy_X8_isStanding kw_305 (by decide) rfl rfl rfl rfl (Nat.le_of_ble_eq_true rfl) ⟨Nat.le_of_ble_eq_true rfl, Nat.le_of_ble_eq_true rfl, Nat.zero_le _, Nat.zero_le _⟩ (sX8_isStanding is_58 hc2) ?_
      refine fr_bz (pc := 121) 127 dX8_year_121 (by decide) (fun c4 => ?_) (fun c4 => ?_)
      · have hf := fd_f c4 hf
        refine fr_iinc (pc := 127) (v := (v6 + (1 : Int32))) (lv' := [(6, .int (v6 + (1 : Int32))), (0, .ref (g.2.2.2 + 0)), (5, .int v5)]) dX8_year_127 2 rfl rfl (by decide) rfl ?_
        refine fr_goto (pc := 130) 97 dX8_year_130 (by decide) ?_
        refine fr_loc (lv' := [(0, .ref (g.2.2.2 + 0)), (5, .int v5), (6, .int (v6 + (1 : Int32)))]) [1, 2, 0] rfl ?_
        exact ih _ _ _ hf
      · have hf := fd_t c4 hf
        refine fr_iinc (pc := 124) (v := (v5 + (1 : Int32))) (lv' := [(5, .int (v5 + (1 : Int32))), (0, .ref (g.2.2.2 + 0)), (6, .int v6)]) dX8_year_124 1 rfl rfl (by decide) rfl ?_
        refine fr_iinc (pc := 127) (v := (v6 + (1 : Int32))) (lv' := [(6, .int (v6 + (1 : Int32))), (5, .int (v5 + (1 : Int32))), (0, .ref (g.2.2.2 + 0))]) dX8_year_127 2 rfl rfl (by decide) rfl ?_
        refine fr_goto (pc := 130) 97 dX8_year_130 (by decide) ?_
        refine fr_loc (lv' := [(0, .ref (g.2.2.2 + 0)), (5, .int (v5 + (1 : Int32))), (6, .int (v6 + (1 : Int32)))]) [2, 1, 0] rfl ?_
        exact ih _ _ _ hf
def fX8_year_L28 (a1 : Int32) (a2 : Int32) : Nat → Int64 → Int32 → fd_H → Option (Int32 × fd_H)
  | 0 => fun _ _ _ => none
  | n + 1 => fun v3 v5 h =>
if (h.1 12 3) ≤ v5 then (
if a2 = (-1 : Int32) then (
fX8_year_L97 a1 a2 fd_fu (0 : Int32) (0 : Int32) h)
else (
(fX5_firstOf 58 a2 h).bind fun r4 =>
some (r4, h)))
else (
(fX5_at 44 v5 h).bind fun r6 =>
(fX7_frostNights v5 v3 r6 h).bind fun r8 =>
(fX5_set 58 v5 r8 h).bind fun h10 =>
fX8_year_L28 a1 a2 n v3 (v5 + (1 : Int32)) h10)
set_option maxRecDepth 100000 in
set_option maxHeartbeats 4000000 in
theorem sX8_year_L28 {g : fd_G} {hm : fd_H} {a1 : Int32} {a2 : Int32} {r : Int32 × fd_H} : ∀ (n : Nat) (v3 : Int64) (v5 : Int32) (h : fd_H), fX8_year_L28 a1 a2 n v3 v5 h = some r → fd_A g mX8_year fd_E (fd_rm 3 0 0) (fd_Q g (some (.int r.1)) fd_X0 (fd_mx r.2 hm) 0 0) 28 [(0, .ref (g.2.2.2 + 0)), (2, .int a2), (3, .long v3), (5, .int v5)] [] fd_X0 (fd_mx h hm) 0 0 := by
  intro n
  induction n with
  | zero =>
    intro _ _ _ hf
    cases hf
  | succ n ih =>
    intro v3 v5 h hf
    rw [fX8_year_L28] at hf
    refine fr_iload (pc := 28) dX8_year_28 3 rfl ?_
    refine fr_aload_n (pc := 30) dX8_year_30 0 rfl rfl ?_
    refine fr_getR (pc := 31) dX8_year_31 fl_X8_29 (by decide) rfl rfl ?_
    refine vx_getI (pc := 34) dX8_year_34 fl_X8_150 (by decide) (by decide) rfl rfl ?_
    refine fr_icmp_ge (pc := 37) 77 dX8_year_37 (by decide) (fun c1 => ?_) (fun c1 => ?_)
    · have hf := fd_t c1 hf
      refine fr_iload_n (pc := 77) dX8_year_77 1 rfl rfl ?_
      refine fr_iconst (pc := 78) (v := (-1 : Int32)) dX8_year_78 (by decide) ?_
      refine fr_icmp_eq (pc := 79) 91 dX8_year_79 (by decide) (fun c2 => ?_) (fun c2 => ?_)
      · have hf := fd_t c2 hf
        refine fr_iconst (pc := 91) (v := (0 : Int32)) dX8_year_91 (by decide) ?_
        refine fr_istore (pc := 92) (lv' := [(5, .int (0 : Int32)), (0, .ref (g.2.2.2 + 0)), (2, .int a2), (3, .long v3)]) dX8_year_92 (by decide) rfl ?_
        refine fr_iconst (pc := 94) (v := (0 : Int32)) dX8_year_94 (by decide) ?_
        refine fr_istore (pc := 95) (lv' := [(6, .int (0 : Int32)), (5, .int (0 : Int32)), (0, .ref (g.2.2.2 + 0)), (2, .int a2), (3, .long v3)]) dX8_year_95 (by decide) rfl ?_
        refine fr_loc (lv' := [(0, .ref (g.2.2.2 + 0)), (5, .int (0 : Int32)), (6, .int (0 : Int32))]) [2, 1, 0] rfl ?_
        exact sX8_year_L97 _  _ _ _ hf
      · have hf := fd_f c2 hf
        refine fr_aload_n (pc := 82) dX8_year_82 0 rfl rfl ?_
        refine fr_getR (pc := 83) dX8_year_83 fl_X8_47 (by decide) rfl rfl ?_
        refine fr_iload_n (pc := 86) dX8_year_86 1 rfl rfl ?_
        obtain ⟨r4, hc3, hf⟩ := fd_bi hf
        refine fr_callVi (pc := 87) (av := [.int a2]) dX8_year_87 yy_X5_firstOf kw_301 (by decide) rfl rfl rfl rfl (Nat.le_of_ble_eq_true rfl) ⟨Nat.le_of_ble_eq_true rfl, Nat.le_of_ble_eq_true rfl, Nat.zero_le _, Nat.zero_le _⟩ (sX5_firstOf is_58 hc3) ?_
        exact vx_iretW (x := r4) (pc := 90) dX8_year_90 rfl hf
    · have hf := fd_f c1 hf
      refine fr_aload_n (pc := 40) dX8_year_40 0 rfl rfl ?_
      refine fr_getR (pc := 41) dX8_year_41 fl_X8_47 (by decide) rfl rfl ?_
      refine fr_iload (pc := 44) dX8_year_44 3 rfl ?_
      refine fr_aload_n (pc := 46) dX8_year_46 0 rfl rfl ?_
      refine fr_getR (pc := 47) dX8_year_47 fl_X8_21 (by decide) rfl rfl ?_
      refine fr_iload (pc := 50) dX8_year_50 3 rfl ?_
      refine fr_lload_n (pc := 52) dX8_year_52 2 rfl rfl ?_
      refine fr_aload_n (pc := 53) dX8_year_53 0 rfl rfl ?_
      refine fr_getR (pc := 54) dX8_year_54 fl_X8_21 (by decide) rfl rfl ?_
      refine fr_getR (pc := 57) dX8_year_57 fl_X8_134 (by decide) rfl rfl ?_
      refine fr_iload (pc := 60) dX8_year_60 3 rfl ?_
      obtain ⟨r6, hc5, hf⟩ := fd_bi hf
      refine fr_callVl (pc := 62) (av := [.int v5]) dX8_year_62 yy_X5_at kw_118 (by decide) rfl rfl rfl rfl (Nat.le_of_ble_eq_true rfl) ⟨Nat.le_of_ble_eq_true rfl, Nat.le_of_ble_eq_true rfl, Nat.zero_le _, Nat.zero_le _⟩ (sX5_at is_44 hc5) ?_
      obtain ⟨r8, hc7, hf⟩ := fd_bi hf
      refine fr_callVl (pc := 65) (av := [.int v5, .long v3, .long r6]) dX8_year_65 yy_X7_frostNights kw_320 (by decide) rfl rfl rfl rfl (Nat.le_of_ble_eq_true rfl) ⟨Nat.le_of_ble_eq_true rfl, Nat.le_of_ble_eq_true rfl, Nat.zero_le _, Nat.zero_le _⟩ (sX7_frostNights hc7) ?_
      obtain ⟨h10, hc9, hf⟩ := fd_bi hf
      refine fr_callVv (pc := 68) (av := [.int v5, .long r8]) dX8_year_68 yy_X5_set kw_319 (by decide) rfl rfl rfl rfl (Nat.le_of_ble_eq_true rfl) ⟨Nat.le_of_ble_eq_true rfl, Nat.le_of_ble_eq_true rfl, Nat.zero_le _, Nat.zero_le _⟩ (sX5_set is_58 hc9) ?_
      refine fr_iinc (pc := 71) (v := (v5 + (1 : Int32))) (lv' := [(5, .int (v5 + (1 : Int32))), (0, .ref (g.2.2.2 + 0)), (2, .int a2), (3, .long v3)]) dX8_year_71 3 rfl rfl (by decide) rfl ?_
      refine fr_goto (pc := 74) 28 dX8_year_74 (by decide) ?_
      refine fr_loc (lv' := [(0, .ref (g.2.2.2 + 0)), (2, .int a2), (3, .long v3), (5, .int (v5 + (1 : Int32)))]) [1, 2, 3, 0] rfl ?_
      exact ih _ _ _ hf
def fX8_year_L19 (a1 : Int32) (a2 : Int32) (h : fd_H) : Option (Int32 × fd_H) :=
(fX8_cloudsBySeed a1 h).bind fun r2 =>
fX8_year_L28 a1 a2 fd_fu r2 (0 : Int32) h
set_option maxRecDepth 100000 in
set_option maxHeartbeats 4000000 in
theorem sX8_year_L19 {g : fd_G} {hm : fd_H} {a1 : Int32} {a2 : Int32} {r : Int32 × fd_H} : ∀ (h : fd_H), fX8_year_L19 a1 a2 h = some r → fd_A g mX8_year fd_E (fd_rm 3 0 0) (fd_Q g (some (.int r.1)) fd_X0 (fd_mx r.2 hm) 0 0) 19 [(0, .ref (g.2.2.2 + 0)), (1, .int a1), (2, .int a2)] [] fd_X0 (fd_mx h hm) 0 0 := by
  intro h hf
  unfold fX8_year_L19 at hf
  refine fr_aload_n (pc := 19) dX8_year_19 0 rfl rfl ?_
  refine fr_iload_n (pc := 20) dX8_year_20 1 rfl rfl ?_
  obtain ⟨r2, hc1, hf⟩ := fd_bi hf
  refine fr_callVl (pc := 21) (av := [.int a1]) dX8_year_21 yy_X8_cloudsBySeed kw_331 (by decide) rfl rfl rfl rfl (Nat.le_of_ble_eq_true rfl) ⟨Nat.le_of_ble_eq_true rfl, Nat.le_of_ble_eq_true rfl, Nat.zero_le _, Nat.zero_le _⟩ (sX8_cloudsBySeed hc1) ?_
  refine fr_lstore_n (pc := 24) (lv' := [(3, .long r2), (0, .ref (g.2.2.2 + 0)), (1, .int a1), (2, .int a2)]) dX8_year_24 rfl (by decide) rfl ?_
  refine fr_iconst (pc := 25) (v := (0 : Int32)) dX8_year_25 (by decide) ?_
  refine fr_istore (pc := 26) (lv' := [(5, .int (0 : Int32)), (3, .long r2), (0, .ref (g.2.2.2 + 0)), (1, .int a1), (2, .int a2)]) dX8_year_26 (by decide) rfl ?_
  refine fr_loc (lv' := [(0, .ref (g.2.2.2 + 0)), (2, .int a2), (3, .long r2), (5, .int (0 : Int32))]) [2, 4, 1, 0] rfl ?_
  exact sX8_year_L28 _  _ _ _ hf
def fX8_year (a1 : Int32) (a2 : Int32) (h : fd_H) : Option (Int32 × fd_H) :=
if a2 = (-1 : Int32) then (
fX8_year_L19 a1 a2 h)
else (
(fX2_has a2 h).bind fun r3 =>
if r3 = true then (
fX8_year_L19 a1 a2 h)
else (
some ((-2 : Int32), h)))
set_option maxRecDepth 100000 in
set_option maxHeartbeats 4000000 in
theorem sX8_year {g : fd_G} {hm : fd_H} {a1 : Int32} {a2 : Int32} {r : Int32 × fd_H} {h : fd_H} (hf : fX8_year a1 a2 h = some r) : fd_S g mX8_year 3 [.ref (g.2.2.2 + 0), .int a1, .int a2] fd_X0 (fd_mx h hm) (some (.int r.1)) fd_X0 (fd_mx r.2 hm) 0 0 := by
  refine fd_S.of (by decide +kernel) (Nat.le_of_ble_eq_true rfl) ?_
  unfold fX8_year at hf
  refine fr_loc (lv' := [(0, .ref (g.2.2.2 + 0)), (1, .int a1), (2, .int a2)]) [0, 1, 2] rfl ?_
  refine fr_iload_n (pc := 0) dX8_year_0 2 rfl rfl ?_
  refine fr_iconst (pc := 1) (v := (-1 : Int32)) dX8_year_1 (by decide) ?_
  refine fr_icmp_eq (pc := 2) 19 dX8_year_2 (by decide) (fun c1 => ?_) (fun c1 => ?_)
  · have hf := fd_t c1 hf
    refine fr_loc (lv' := [(0, .ref (g.2.2.2 + 0)), (1, .int a1), (2, .int a2)]) [0, 1, 2] rfl ?_
    exact sX8_year_L19  _ hf
  · have hf := fd_f c1 hf
    refine fr_aload_n (pc := 5) dX8_year_5 0 rfl rfl ?_
    refine fr_getR (pc := 6) dX8_year_6 fl_X8_29 (by decide) rfl rfl ?_
    refine fr_iload_n (pc := 9) dX8_year_9 2 rfl rfl ?_
    obtain ⟨r3, hc2, hf⟩ := fd_bi hf
    refine fr_callVz (pc := 10) (av := [.int a2]) dX8_year_10 yy_X2_has kw_108 (by decide) rfl rfl rfl rfl (Nat.le_of_ble_eq_true rfl) ⟨Nat.le_of_ble_eq_true rfl, Nat.le_of_ble_eq_true rfl, Nat.zero_le _, Nat.zero_le _⟩ (sX2_has hc2) ?_
    refine fr_bn (pc := 13) 19 dX8_year_13 (by decide) (fun c4 => ?_) (fun c4 => ?_)
    · have hf := fd_t c4 hf
      refine fr_loc (lv' := [(0, .ref (g.2.2.2 + 0)), (1, .int a1), (2, .int a2)]) [0, 1, 2] rfl ?_
      exact sX8_year_L19  _ hf
    · have hf := fd_f c4 hf
      refine fr_bipush (pc := 16) (v := (-2 : Int32)) dX8_year_16 (by decide) ?_
      exact vx_iretW (x := (-2 : Int32)) (pc := 18) dX8_year_18 rfl hf
theorem dX8_faultOf_0 : decode cX8_faultOf 0 = .ok (.iconst 0, 1) := by decide +kernel
theorem dX8_faultOf_1 : decode cX8_faultOf 1 = .ok (.istore_n 2, 1) := by decide +kernel
theorem dX8_faultOf_2 : decode cX8_faultOf 2 = .ok (.iload_n 2, 1) := by decide +kernel
theorem dX8_faultOf_3 : decode cX8_faultOf 3 = .ok (.aload_n 1, 1) := by decide +kernel
theorem dX8_faultOf_4 : decode cX8_faultOf 4 = .ok (.getfield 73, 3) := by decide +kernel
theorem dX8_faultOf_7 : decode cX8_faultOf 7 = .ok (.if_icmp .ge 20, 3) := by decide +kernel
theorem dX8_faultOf_10 : decode cX8_faultOf 10 = .ok (.iload_n 0, 1) := by decide +kernel
theorem dX8_faultOf_11 : decode cX8_faultOf 11 = .ok (.aload_n 1, 1) := by decide +kernel
theorem dX8_faultOf_12 : decode cX8_faultOf 12 = .ok (.iload_n 2, 1) := by decide +kernel
theorem dX8_faultOf_13 : decode cX8_faultOf 13 = .ok (.invokestatic 309, 3) := by decide +kernel
theorem dX8_faultOf_16 : decode cX8_faultOf 16 = .ok (.ifCond .ne 5, 3) := by decide +kernel
theorem dX8_faultOf_19 : decode cX8_faultOf 19 = .ok (.iload_n 2, 1) := by decide +kernel
theorem dX8_faultOf_20 : decode cX8_faultOf 20 = .ok (.ireturn, 1) := by decide +kernel
theorem dX8_faultOf_21 : decode cX8_faultOf 21 = .ok (.iinc 2 1, 3) := by decide +kernel
theorem dX8_faultOf_24 : decode cX8_faultOf 24 = .ok (.goto (-22), 3) := by decide +kernel
theorem dX8_faultOf_27 : decode cX8_faultOf 27 = .ok (.iload_n 0, 1) := by decide +kernel
theorem dX8_faultOf_28 : decode cX8_faultOf 28 = .ok (.aload_n 1, 1) := by decide +kernel
theorem dX8_faultOf_29 : decode cX8_faultOf 29 = .ok (.getfield 73, 3) := by decide +kernel
theorem dX8_faultOf_32 : decode cX8_faultOf 32 = .ok (.invokestatic 313, 3) := by decide +kernel
theorem dX8_faultOf_35 : decode cX8_faultOf 35 = .ok (.ifCond .eq 7, 3) := by decide +kernel
theorem dX8_faultOf_38 : decode cX8_faultOf 38 = .ok (.iconst (-1), 1) := by decide +kernel
theorem dX8_faultOf_39 : decode cX8_faultOf 39 = .ok (.goto 7, 3) := by decide +kernel
theorem dX8_faultOf_42 : decode cX8_faultOf 42 = .ok (.aload_n 1, 1) := by decide +kernel
theorem dX8_faultOf_43 : decode cX8_faultOf 43 = .ok (.getfield 73, 3) := by decide +kernel
theorem dX8_faultOf_46 : decode cX8_faultOf 46 = .ok (.ireturn, 1) := by decide +kernel
def fX8_faultOf_L2 (a0 : Int32) (k1 : Nat) (n1 : Nat) (h : fd_H) : Nat → Int32 → Option (Int32)
  | 0 => fun _ => none
  | n + 1 => fun v2 =>
if (h.1 k1 2) ≤ v2 then (
(fX8_isEnded a0 (h.1 k1 2)).bind fun r3 =>
if r3 = true then (
some ((-1 : Int32)))
else (
some ((h.1 k1 2))))
else (
(fX8_fits a0 k1 n1 v2 h).bind fun r6 =>
if r6 = true then (
fX8_faultOf_L2 a0 k1 n1 h n (v2 + (1 : Int32)))
else (
some (v2)))
set_option maxRecDepth 100000 in
set_option maxHeartbeats 4000000 in
theorem sX8_faultOf_L2 {g : fd_G} {hm : fd_H} {a0 : Int32} {k1 : Nat} {n1 : Nat} {h : fd_H} {r : Int32} (p1 : fd_isText k1 n1) : ∀ (n : Nat) (v2 : Int32), fX8_faultOf_L2 a0 k1 n1 h n v2 = some r → fd_A g mX8_faultOf fd_E (fd_rm 3 0 0) (fd_Q g (some (.int r)) fd_X0 (fd_mx h hm) 0 0) 2 [(0, .int a0), (1, .ref (g.2.2.2 + k1)), (2, .int v2)] [] fd_X0 (fd_mx h hm) 0 0 := by
  intro n
  induction n with
  | zero =>
    intro _ hf
    cases hf
  | succ n ih =>
    intro v2 hf
    rw [fX8_faultOf_L2] at hf
    refine fr_iload_n (pc := 2) dX8_faultOf_2 2 rfl rfl ?_
    refine fr_aload_n (pc := 3) dX8_faultOf_3 1 rfl rfl ?_
    refine vx_getI (pc := 4) dX8_faultOf_4 fl_X8_73 p1.b p1.x p1.s rfl ?_
    refine fr_icmp_ge (pc := 7) 27 dX8_faultOf_7 (by decide) (fun c1 => ?_) (fun c1 => ?_)
    · have hf := fd_t c1 hf
      refine fr_iload_n (pc := 27) dX8_faultOf_27 0 rfl rfl ?_
      refine fr_aload_n (pc := 28) dX8_faultOf_28 1 rfl rfl ?_
      refine vx_getI (pc := 29) dX8_faultOf_29 fl_X8_73 p1.b p1.x p1.s rfl ?_
      obtain ⟨r3, hc2, hf⟩ := fd_bi hf
      refine fr_callSz (pc := 32) (av := [.int a0, .int (h.1 k1 2)]) dX8_faultOf_32 yy_X8_isEnded kw_334 rfl rfl (Nat.le_of_ble_eq_true rfl) ⟨Nat.le_of_ble_eq_true rfl, Nat.le_of_ble_eq_true rfl, Nat.zero_le _, Nat.zero_le _⟩ (sX8_isEnded hc2) ?_
      refine fr_bz (pc := 35) 42 dX8_faultOf_35 (by decide) (fun c4 => ?_) (fun c4 => ?_)
      · have hf := fd_f c4 hf
        refine fr_aload_n (pc := 42) dX8_faultOf_42 1 rfl rfl ?_
        refine vx_getI (pc := 43) dX8_faultOf_43 fl_X8_73 p1.b p1.x p1.s rfl ?_
        exact fr_iretP (x := (h.1 k1 2)) (pc := 46) dX8_faultOf_46 rfl hf
      · have hf := fd_t c4 hf
        refine fr_iconst (pc := 38) (v := (-1 : Int32)) dX8_faultOf_38 (by decide) ?_
        refine fr_goto (pc := 39) 46 dX8_faultOf_39 (by decide) ?_
        exact fr_iretP (x := (-1 : Int32)) (pc := 46) dX8_faultOf_46 rfl hf
    · have hf := fd_f c1 hf
      refine fr_iload_n (pc := 10) dX8_faultOf_10 0 rfl rfl ?_
      refine fr_aload_n (pc := 11) dX8_faultOf_11 1 rfl rfl ?_
      refine fr_iload_n (pc := 12) dX8_faultOf_12 2 rfl rfl ?_
      obtain ⟨r6, hc5, hf⟩ := fd_bi hf
      refine fr_callSz (pc := 13) (av := [.int a0, .ref (g.2.2.2 + k1), .int v2]) dX8_faultOf_13 yy_X8_fits kw_337 rfl rfl (Nat.le_of_ble_eq_true rfl) ⟨Nat.le_of_ble_eq_true rfl, Nat.le_of_ble_eq_true rfl, Nat.zero_le _, Nat.zero_le _⟩ (sX8_fits p1 hc5) ?_
      refine fr_bn (pc := 16) 21 dX8_faultOf_16 (by decide) (fun c7 => ?_) (fun c7 => ?_)
      · have hf := fd_t c7 hf
        refine fr_iinc (pc := 21) (v := (v2 + (1 : Int32))) (lv' := [(2, .int (v2 + (1 : Int32))), (0, .int a0), (1, .ref (g.2.2.2 + k1))]) dX8_faultOf_21 2 rfl rfl (by decide) rfl ?_
        refine fr_goto (pc := 24) 2 dX8_faultOf_24 (by decide) ?_
        refine fr_loc (lv' := [(0, .int a0), (1, .ref (g.2.2.2 + k1)), (2, .int (v2 + (1 : Int32)))]) [1, 2, 0] rfl ?_
        exact ih _ hf
      · have hf := fd_f c7 hf
        refine fr_iload_n (pc := 19) dX8_faultOf_19 2 rfl rfl ?_
        exact fr_iretP (x := v2) (pc := 20) dX8_faultOf_20 rfl hf
def fX8_faultOf (a0 : Int32) (k1 : Nat) (n1 : Nat) (h : fd_H) : Option (Int32) :=
fX8_faultOf_L2 a0 k1 n1 h fd_fu (0 : Int32)
set_option maxRecDepth 100000 in
set_option maxHeartbeats 4000000 in
theorem sX8_faultOf {g : fd_G} {hm : fd_H} {a0 : Int32} {k1 : Nat} {n1 : Nat} {h : fd_H} {r : Int32} (p1 : fd_isText k1 n1) (hf : fX8_faultOf a0 k1 n1 h = some r) : fd_S g mX8_faultOf 3 [.int a0, .ref (g.2.2.2 + k1)] fd_X0 (fd_mx h hm) (some (.int r)) fd_X0 (fd_mx h hm) 0 0 := by
  refine fd_S.of (by decide +kernel) (Nat.le_of_ble_eq_true rfl) ?_
  unfold fX8_faultOf at hf
  refine fr_loc (lv' := [(0, .int a0), (1, .ref (g.2.2.2 + k1))]) [0, 1] rfl ?_
  refine fr_iconst (pc := 0) (v := (0 : Int32)) dX8_faultOf_0 (by decide) ?_
  refine fr_istore_n (pc := 1) (lv' := [(2, .int (0 : Int32)), (0, .int a0), (1, .ref (g.2.2.2 + k1))]) dX8_faultOf_1 rfl (by decide) rfl ?_
  refine fr_loc (lv' := [(0, .int a0), (1, .ref (g.2.2.2 + k1)), (2, .int (0 : Int32))]) [1, 2, 0] rfl ?_
  exact sX8_faultOf_L2 p1 _  _ hf
theorem dX8_nightsStood_0 : decode cX8_nightsStood 0 = .ok (.aload_n 0, 1) := by decide +kernel
theorem dX8_nightsStood_1 : decode cX8_nightsStood 1 = .ok (.getfield 29, 3) := by decide +kernel
theorem dX8_nightsStood_4 : decode cX8_nightsStood 4 = .ok (.iload_n 2, 1) := by decide +kernel
theorem dX8_nightsStood_5 : decode cX8_nightsStood 5 = .ok (.invokevirtual 80, 3) := by decide +kernel
theorem dX8_nightsStood_8 : decode cX8_nightsStood 8 = .ok (.ifCond .ne 5, 3) := by decide +kernel
theorem dX8_nightsStood_11 : decode cX8_nightsStood 11 = .ok (.iconst 0, 1) := by decide +kernel
theorem dX8_nightsStood_12 : decode cX8_nightsStood 12 = .ok (.ireturn, 1) := by decide +kernel
theorem dX8_nightsStood_13 : decode cX8_nightsStood 13 = .ok (.aload_n 0, 1) := by decide +kernel
theorem dX8_nightsStood_14 : decode cX8_nightsStood 14 = .ok (.getfield 21, 3) := by decide +kernel
theorem dX8_nightsStood_17 : decode cX8_nightsStood 17 = .ok (.getfield 144, 3) := by decide +kernel
theorem dX8_nightsStood_20 : decode cX8_nightsStood 20 = .ok (.iload_n 2, 1) := by decide +kernel
theorem dX8_nightsStood_21 : decode cX8_nightsStood 21 = .ok (.invokevirtual 147, 3) := by decide +kernel
theorem dX8_nightsStood_24 : decode cX8_nightsStood 24 = .ok (.istore_n 3, 1) := by decide +kernel
theorem dX8_nightsStood_25 : decode cX8_nightsStood 25 = .ok (.iload_n 3, 1) := by decide +kernel
theorem dX8_nightsStood_26 : decode cX8_nightsStood 26 = .ok (.iconst (-1), 1) := by decide +kernel
theorem dX8_nightsStood_27 : decode cX8_nightsStood 27 = .ok (.if_icmp .ne 8, 3) := by decide +kernel
theorem dX8_nightsStood_30 : decode cX8_nightsStood 30 = .ok (.bipush 40, 2) := by decide +kernel
theorem dX8_nightsStood_32 : decode cX8_nightsStood 32 = .ok (.goto 4, 3) := by decide +kernel
theorem dX8_nightsStood_35 : decode cX8_nightsStood 35 = .ok (.iload_n 3, 1) := by decide +kernel
theorem dX8_nightsStood_36 : decode cX8_nightsStood 36 = .ok (.istore 4, 2) := by decide +kernel
theorem dX8_nightsStood_38 : decode cX8_nightsStood 38 = .ok (.iconst 0, 1) := by decide +kernel
theorem dX8_nightsStood_39 : decode cX8_nightsStood 39 = .ok (.iload 4, 2) := by decide +kernel
theorem dX8_nightsStood_41 : decode cX8_nightsStood 41 = .ok (.aload_n 0, 1) := by decide +kernel
theorem dX8_nightsStood_42 : decode cX8_nightsStood 42 = .ok (.getfield 33, 3) := by decide +kernel
theorem dX8_nightsStood_45 : decode cX8_nightsStood 45 = .ok (.iload_n 1, 1) := by decide +kernel
theorem dX8_nightsStood_46 : decode cX8_nightsStood 46 = .ok (.iconst 4, 1) := by decide +kernel
theorem dX8_nightsStood_47 : decode cX8_nightsStood 47 = .ok (.invokevirtual 107, 3) := by decide +kernel
theorem dX8_nightsStood_50 : decode cX8_nightsStood 50 = .ok (.isub, 1) := by decide +kernel
theorem dX8_nightsStood_51 : decode cX8_nightsStood 51 = .ok (.invokestatic 168, 3) := by decide +kernel
theorem dX8_nightsStood_54 : decode cX8_nightsStood 54 = .ok (.ireturn, 1) := by decide +kernel
def fX8_nightsStood_L36 (a1 : Int32) (a2 : Int32) (h : fd_H) (vs0 : Int32) : Option (Int32) :=
(fX0_fact a1 (4 : Int32) h).bind fun r2 =>
some ((fd_max (0 : Int32) (vs0 - r2)))
set_option maxRecDepth 100000 in
set_option maxHeartbeats 4000000 in
theorem sX8_nightsStood_L36 {g : fd_G} {hm : fd_H} {a1 : Int32} {a2 : Int32} {h : fd_H} {r : Int32} : ∀ (vs0 : Int32), fX8_nightsStood_L36 a1 a2 h vs0 = some r → fd_A g mX8_nightsStood fd_E (fd_rm 3 0 0) (fd_Q g (some (.int r)) fd_X0 (fd_mx h hm) 0 0) 36 [(0, .ref (g.2.2.2 + 0)), (1, .int a1)] [.int vs0] fd_X0 (fd_mx h hm) 0 0 := by
  intro vs0 hf
  unfold fX8_nightsStood_L36 at hf
  refine fr_istore (pc := 36) (lv' := [(4, .int vs0), (0, .ref (g.2.2.2 + 0)), (1, .int a1)]) dX8_nightsStood_36 (by decide) rfl ?_
  refine fr_iconst (pc := 38) (v := (0 : Int32)) dX8_nightsStood_38 (by decide) ?_
  refine fr_iload (pc := 39) dX8_nightsStood_39 0 rfl ?_
  refine fr_aload_n (pc := 41) dX8_nightsStood_41 1 rfl rfl ?_
  refine fr_getR (pc := 42) dX8_nightsStood_42 fl_X8_33 (by decide) rfl rfl ?_
  refine fr_iload_n (pc := 45) dX8_nightsStood_45 2 rfl rfl ?_
  refine fr_iconst (pc := 46) (v := (4 : Int32)) dX8_nightsStood_46 (by decide) ?_
  obtain ⟨r2, hc1, hf⟩ := fd_bi hf
  refine fr_callVi (pc := 47) (av := [.int a1, .int (4 : Int32)]) dX8_nightsStood_47 yy_X0_fact kw_195 (by decide) rfl rfl rfl rfl (Nat.le_of_ble_eq_true rfl) ⟨Nat.le_of_ble_eq_true rfl, Nat.le_of_ble_eq_true rfl, Nat.zero_le _, Nat.zero_le _⟩ (sX0_fact hc1) ?_
  refine fr_isub (pc := 50) dX8_nightsStood_50 ?_
  refine fr_max (pc := 51) dX8_nightsStood_51 kw_340 (Nat.le_of_ble_eq_true rfl) (Nat.le_of_ble_eq_true rfl) (Nat.zero_le _) (Nat.zero_le _) ?_
  exact fr_iretP (x := (fd_max (0 : Int32) (vs0 - r2))) (pc := 54) dX8_nightsStood_54 rfl hf
def fX8_nightsStood (a1 : Int32) (a2 : Int32) (h : fd_H) : Option (Int32) :=
(fX2_has a2 h).bind fun r2 =>
if r2 = true then (
(fX5_firstOf 46 a2 h).bind fun r5 =>
if r5 = (-1 : Int32) then (
fX8_nightsStood_L36 a1 a2 h (40 : Int32))
else (
fX8_nightsStood_L36 a1 a2 h r5))
else (
some ((0 : Int32)))
set_option maxRecDepth 100000 in
set_option maxHeartbeats 4000000 in
theorem sX8_nightsStood {g : fd_G} {hm : fd_H} {a1 : Int32} {a2 : Int32} {h : fd_H} {r : Int32} (hf : fX8_nightsStood a1 a2 h = some r) : fd_S g mX8_nightsStood 3 [.ref (g.2.2.2 + 0), .int a1, .int a2] fd_X0 (fd_mx h hm) (some (.int r)) fd_X0 (fd_mx h hm) 0 0 := by
  refine fd_S.of (by decide +kernel) (Nat.le_of_ble_eq_true rfl) ?_
  unfold fX8_nightsStood at hf
  refine fr_loc (lv' := [(0, .ref (g.2.2.2 + 0)), (1, .int a1), (2, .int a2)]) [0, 1, 2] rfl ?_
  refine fr_aload_n (pc := 0) dX8_nightsStood_0 0 rfl rfl ?_
  refine fr_getR (pc := 1) dX8_nightsStood_1 fl_X8_29 (by decide) rfl rfl ?_
  refine fr_iload_n (pc := 4) dX8_nightsStood_4 2 rfl rfl ?_
  obtain ⟨r2, hc1, hf⟩ := fd_bi hf
  refine fr_callVz (pc := 5) (av := [.int a2]) dX8_nightsStood_5 yy_X2_has kw_108 (by decide) rfl rfl rfl rfl (Nat.le_of_ble_eq_true rfl) ⟨Nat.le_of_ble_eq_true rfl, Nat.le_of_ble_eq_true rfl, Nat.zero_le _, Nat.zero_le _⟩ (sX2_has hc1) ?_
  refine fr_bn (pc := 8) 13 dX8_nightsStood_8 (by decide) (fun c3 => ?_) (fun c3 => ?_)
  · have hf := fd_t c3 hf
    refine fr_aload_n (pc := 13) dX8_nightsStood_13 0 rfl rfl ?_
    refine fr_getR (pc := 14) dX8_nightsStood_14 fl_X8_21 (by decide) rfl rfl ?_
    refine fr_getR (pc := 17) dX8_nightsStood_17 fl_X8_144 (by decide) rfl rfl ?_
    refine fr_iload_n (pc := 20) dX8_nightsStood_20 2 rfl rfl ?_
    obtain ⟨r5, hc4, hf⟩ := fd_bi hf
    refine fr_callVi (pc := 21) (av := [.int a2]) dX8_nightsStood_21 yy_X5_firstOf kw_301 (by decide) rfl rfl rfl rfl (Nat.le_of_ble_eq_true rfl) ⟨Nat.le_of_ble_eq_true rfl, Nat.le_of_ble_eq_true rfl, Nat.zero_le _, Nat.zero_le _⟩ (sX5_firstOf is_46 hc4) ?_
    refine fr_istore_n (pc := 24) (lv' := [(3, .int r5), (0, .ref (g.2.2.2 + 0)), (1, .int a1), (2, .int a2)]) dX8_nightsStood_24 rfl (by decide) rfl ?_
    refine fr_iload_n (pc := 25) dX8_nightsStood_25 0 rfl rfl ?_
    refine fr_iconst (pc := 26) (v := (-1 : Int32)) dX8_nightsStood_26 (by decide) ?_
    refine fr_icmp_ne (pc := 27) 35 dX8_nightsStood_27 (by decide) (fun c6 => ?_) (fun c6 => ?_)
    · have hf := fd_f c6 hf
      refine fr_iload_n (pc := 35) dX8_nightsStood_35 0 rfl rfl ?_
      refine fr_loc (lv' := [(0, .ref (g.2.2.2 + 0)), (1, .int a1)]) [1, 2] rfl ?_
      exact sX8_nightsStood_L36  _ hf
    · have hf := fd_t c6 hf
      refine fr_bipush (pc := 30) (v := (40 : Int32)) dX8_nightsStood_30 (by decide) ?_
      refine fr_goto (pc := 32) 36 dX8_nightsStood_32 (by decide) ?_
      refine fr_loc (lv' := [(0, .ref (g.2.2.2 + 0)), (1, .int a1)]) [1, 2] rfl ?_
      exact sX8_nightsStood_L36  _ hf
  · have hf := fd_f c3 hf
    refine fr_iconst (pc := 11) (v := (0 : Int32)) dX8_nightsStood_11 (by decide) ?_
    exact fr_iretP (x := (0 : Int32)) (pc := 12) dX8_nightsStood_12 rfl hf
theorem dX8_isNothing_0 : decode cX8_isNothing 0 = .ok (.aload_n 0, 1) := by decide +kernel
theorem dX8_isNothing_1 : decode cX8_isNothing 1 = .ok (.getfield 33, 3) := by decide +kernel
theorem dX8_isNothing_4 : decode cX8_isNothing 4 = .ok (.iload_n 1, 1) := by decide +kernel
theorem dX8_isNothing_5 : decode cX8_isNothing 5 = .ok (.iconst 3, 1) := by decide +kernel
theorem dX8_isNothing_6 : decode cX8_isNothing 6 = .ok (.invokevirtual 107, 3) := by decide +kernel
theorem dX8_isNothing_9 : decode cX8_isNothing 9 = .ok (.istore_n 2, 1) := by decide +kernel
theorem dX8_isNothing_10 : decode cX8_isNothing 10 = .ok (.aload_n 0, 1) := by decide +kernel
theorem dX8_isNothing_11 : decode cX8_isNothing 11 = .ok (.getfield 29, 3) := by decide +kernel
theorem dX8_isNothing_14 : decode cX8_isNothing 14 = .ok (.iload_n 2, 1) := by decide +kernel
theorem dX8_isNothing_15 : decode cX8_isNothing 15 = .ok (.invokevirtual 80, 3) := by decide +kernel
theorem dX8_isNothing_18 : decode cX8_isNothing 18 = .ok (.ifCond .ne 5, 3) := by decide +kernel
theorem dX8_isNothing_21 : decode cX8_isNothing 21 = .ok (.iconst 1, 1) := by decide +kernel
theorem dX8_isNothing_22 : decode cX8_isNothing 22 = .ok (.ireturn, 1) := by decide +kernel
theorem dX8_isNothing_23 : decode cX8_isNothing 23 = .ok (.aload_n 0, 1) := by decide +kernel
theorem dX8_isNothing_24 : decode cX8_isNothing 24 = .ok (.getfield 21, 3) := by decide +kernel
theorem dX8_isNothing_27 : decode cX8_isNothing 27 = .ok (.getfield 144, 3) := by decide +kernel
theorem dX8_isNothing_30 : decode cX8_isNothing 30 = .ok (.iload_n 2, 1) := by decide +kernel
theorem dX8_isNothing_31 : decode cX8_isNothing 31 = .ok (.invokevirtual 147, 3) := by decide +kernel
theorem dX8_isNothing_34 : decode cX8_isNothing 34 = .ok (.istore_n 3, 1) := by decide +kernel
theorem dX8_isNothing_35 : decode cX8_isNothing 35 = .ok (.iload_n 3, 1) := by decide +kernel
theorem dX8_isNothing_36 : decode cX8_isNothing 36 = .ok (.iconst (-1), 1) := by decide +kernel
theorem dX8_isNothing_37 : decode cX8_isNothing 37 = .ok (.if_icmp .eq 20, 3) := by decide +kernel
theorem dX8_isNothing_40 : decode cX8_isNothing 40 = .ok (.iload_n 3, 1) := by decide +kernel
theorem dX8_isNothing_41 : decode cX8_isNothing 41 = .ok (.aload_n 0, 1) := by decide +kernel
theorem dX8_isNothing_42 : decode cX8_isNothing 42 = .ok (.getfield 33, 3) := by decide +kernel
theorem dX8_isNothing_45 : decode cX8_isNothing 45 = .ok (.iload_n 1, 1) := by decide +kernel
theorem dX8_isNothing_46 : decode cX8_isNothing 46 = .ok (.iconst 4, 1) := by decide +kernel
theorem dX8_isNothing_47 : decode cX8_isNothing 47 = .ok (.invokevirtual 107, 3) := by decide +kernel
theorem dX8_isNothing_50 : decode cX8_isNothing 50 = .ok (.if_icmp .ge 7, 3) := by decide +kernel
theorem dX8_isNothing_53 : decode cX8_isNothing 53 = .ok (.iconst 1, 1) := by decide +kernel
theorem dX8_isNothing_54 : decode cX8_isNothing 54 = .ok (.goto 4, 3) := by decide +kernel
theorem dX8_isNothing_57 : decode cX8_isNothing 57 = .ok (.iconst 0, 1) := by decide +kernel
theorem dX8_isNothing_58 : decode cX8_isNothing 58 = .ok (.ireturn, 1) := by decide +kernel
def fX8_isNothing (a1 : Int32) (h : fd_H) : Option (Bool) :=
(fX0_fact a1 (3 : Int32) h).bind fun r2 =>
(fX2_has r2 h).bind fun r4 =>
if r4 = true then (
(fX5_firstOf 46 r2 h).bind fun r7 =>
if r7 = (-1 : Int32) then (
some (false))
else (
(fX0_fact a1 (4 : Int32) h).bind fun r10 =>
if r10 ≤ r7 then (
some (false))
else (
some (true))))
else (
some (true))
set_option maxRecDepth 100000 in
set_option maxHeartbeats 4000000 in
theorem sX8_isNothing {g : fd_G} {hm : fd_H} {a1 : Int32} {h : fd_H} {r : Bool} (hf : fX8_isNothing a1 h = some r) : fd_S g mX8_isNothing 3 [.ref (g.2.2.2 + 0), .int a1] fd_X0 (fd_mx h hm) (some (.int (fd_b r))) fd_X0 (fd_mx h hm) 0 0 := by
  refine fd_S.of (by decide +kernel) (Nat.le_of_ble_eq_true rfl) ?_
  unfold fX8_isNothing at hf
  refine fr_loc (lv' := [(0, .ref (g.2.2.2 + 0)), (1, .int a1)]) [0, 1] rfl ?_
  refine fr_aload_n (pc := 0) dX8_isNothing_0 0 rfl rfl ?_
  refine fr_getR (pc := 1) dX8_isNothing_1 fl_X8_33 (by decide) rfl rfl ?_
  refine fr_iload_n (pc := 4) dX8_isNothing_4 1 rfl rfl ?_
  refine fr_iconst (pc := 5) (v := (3 : Int32)) dX8_isNothing_5 (by decide) ?_
  obtain ⟨r2, hc1, hf⟩ := fd_bi hf
  refine fr_callVi (pc := 6) (av := [.int a1, .int (3 : Int32)]) dX8_isNothing_6 yy_X0_fact kw_195 (by decide) rfl rfl rfl rfl (Nat.le_of_ble_eq_true rfl) ⟨Nat.le_of_ble_eq_true rfl, Nat.le_of_ble_eq_true rfl, Nat.zero_le _, Nat.zero_le _⟩ (sX0_fact hc1) ?_
  refine fr_istore_n (pc := 9) (lv' := [(2, .int r2), (0, .ref (g.2.2.2 + 0)), (1, .int a1)]) dX8_isNothing_9 rfl (by decide) rfl ?_
  refine fr_aload_n (pc := 10) dX8_isNothing_10 1 rfl rfl ?_
  refine fr_getR (pc := 11) dX8_isNothing_11 fl_X8_29 (by decide) rfl rfl ?_
  refine fr_iload_n (pc := 14) dX8_isNothing_14 0 rfl rfl ?_
  obtain ⟨r4, hc3, hf⟩ := fd_bi hf
  refine fr_callVz (pc := 15) (av := [.int r2]) dX8_isNothing_15 yy_X2_has kw_108 (by decide) rfl rfl rfl rfl (Nat.le_of_ble_eq_true rfl) ⟨Nat.le_of_ble_eq_true rfl, Nat.le_of_ble_eq_true rfl, Nat.zero_le _, Nat.zero_le _⟩ (sX2_has hc3) ?_
  refine fr_bn (pc := 18) 23 dX8_isNothing_18 (by decide) (fun c5 => ?_) (fun c5 => ?_)
  · have hf := fd_t c5 hf
    refine fr_aload_n (pc := 23) dX8_isNothing_23 1 rfl rfl ?_
    refine fr_getR (pc := 24) dX8_isNothing_24 fl_X8_21 (by decide) rfl rfl ?_
    refine fr_getR (pc := 27) dX8_isNothing_27 fl_X8_144 (by decide) rfl rfl ?_
    refine fr_iload_n (pc := 30) dX8_isNothing_30 0 rfl rfl ?_
    obtain ⟨r7, hc6, hf⟩ := fd_bi hf
    refine fr_callVi (pc := 31) (av := [.int r2]) dX8_isNothing_31 yy_X5_firstOf kw_301 (by decide) rfl rfl rfl rfl (Nat.le_of_ble_eq_true rfl) ⟨Nat.le_of_ble_eq_true rfl, Nat.le_of_ble_eq_true rfl, Nat.zero_le _, Nat.zero_le _⟩ (sX5_firstOf is_46 hc6) ?_
    refine fr_istore_n (pc := 34) (lv' := [(3, .int r7), (2, .int r2), (0, .ref (g.2.2.2 + 0)), (1, .int a1)]) dX8_isNothing_34 rfl (by decide) rfl ?_
    refine fr_iload_n (pc := 35) dX8_isNothing_35 0 rfl rfl ?_
    refine fr_iconst (pc := 36) (v := (-1 : Int32)) dX8_isNothing_36 (by decide) ?_
    refine fr_icmp_eq (pc := 37) 57 dX8_isNothing_37 (by decide) (fun c8 => ?_) (fun c8 => ?_)
    · have hf := fd_t c8 hf
      refine fr_iconst (pc := 57) (v := (0 : Int32)) dX8_isNothing_57 (by decide) ?_
      exact fr_zretP (x := false) (pc := 58) dX8_isNothing_58 rfl hf
    · have hf := fd_f c8 hf
      refine fr_iload_n (pc := 40) dX8_isNothing_40 0 rfl rfl ?_
      refine fr_aload_n (pc := 41) dX8_isNothing_41 2 rfl rfl ?_
      refine fr_getR (pc := 42) dX8_isNothing_42 fl_X8_33 (by decide) rfl rfl ?_
      refine fr_iload_n (pc := 45) dX8_isNothing_45 3 rfl rfl ?_
      refine fr_iconst (pc := 46) (v := (4 : Int32)) dX8_isNothing_46 (by decide) ?_
      obtain ⟨r10, hc9, hf⟩ := fd_bi hf
      refine fr_callVi (pc := 47) (av := [.int a1, .int (4 : Int32)]) dX8_isNothing_47 yy_X0_fact kw_195 (by decide) rfl rfl rfl rfl (Nat.le_of_ble_eq_true rfl) ⟨Nat.le_of_ble_eq_true rfl, Nat.le_of_ble_eq_true rfl, Nat.zero_le _, Nat.zero_le _⟩ (sX0_fact hc9) ?_
      refine fr_icmp_ge (pc := 50) 57 dX8_isNothing_50 (by decide) (fun c11 => ?_) (fun c11 => ?_)
      · have hf := fd_t c11 hf
        refine fr_iconst (pc := 57) (v := (0 : Int32)) dX8_isNothing_57 (by decide) ?_
        exact fr_zretP (x := false) (pc := 58) dX8_isNothing_58 rfl hf
      · have hf := fd_f c11 hf
        refine fr_iconst (pc := 53) (v := (1 : Int32)) dX8_isNothing_53 (by decide) ?_
        refine fr_goto (pc := 54) 58 dX8_isNothing_54 (by decide) ?_
        exact fr_zretP (x := true) (pc := 58) dX8_isNothing_58 rfl hf
  · have hf := fd_f c5 hf
    refine fr_iconst (pc := 21) (v := (1 : Int32)) dX8_isNothing_21 (by decide) ?_
    exact fr_zretP (x := true) (pc := 22) dX8_isNothing_22 rfl hf
theorem dX8_sumOf_0 : decode cX8_sumOf 0 = .ok (.iconst 0, 1) := by decide +kernel
theorem dX8_sumOf_1 : decode cX8_sumOf 1 = .ok (.istore 4, 2) := by decide +kernel
theorem dX8_sumOf_3 : decode cX8_sumOf 3 = .ok (.iconst 0, 1) := by decide +kernel
theorem dX8_sumOf_4 : decode cX8_sumOf 4 = .ok (.istore 5, 2) := by decide +kernel
theorem dX8_sumOf_6 : decode cX8_sumOf 6 = .ok (.iload 5, 2) := by decide +kernel
theorem dX8_sumOf_8 : decode cX8_sumOf 8 = .ok (.aload_n 0, 1) := by decide +kernel
theorem dX8_sumOf_9 : decode cX8_sumOf 9 = .ok (.getfield 33, 3) := by decide +kernel
theorem dX8_sumOf_12 : decode cX8_sumOf 12 = .ok (.getfield 104, 3) := by decide +kernel
theorem dX8_sumOf_15 : decode cX8_sumOf 15 = .ok (.if_icmp .ge 55, 3) := by decide +kernel
theorem dX8_sumOf_18 : decode cX8_sumOf 18 = .ok (.aload_n 0, 1) := by decide +kernel
theorem dX8_sumOf_19 : decode cX8_sumOf 19 = .ok (.getfield 33, 3) := by decide +kernel
theorem dX8_sumOf_22 : decode cX8_sumOf 22 = .ok (.iload 5, 2) := by decide +kernel
theorem dX8_sumOf_24 : decode cX8_sumOf 24 = .ok (.iload_n 3, 1) := by decide +kernel
theorem dX8_sumOf_25 : decode cX8_sumOf 25 = .ok (.invokevirtual 107, 3) := by decide +kernel
theorem dX8_sumOf_28 : decode cX8_sumOf 28 = .ok (.iload_n 1, 1) := by decide +kernel
theorem dX8_sumOf_29 : decode cX8_sumOf 29 = .ok (.if_icmp .ne 35, 3) := by decide +kernel
theorem dX8_sumOf_32 : decode cX8_sumOf 32 = .ok (.aload_n 0, 1) := by decide +kernel
theorem dX8_sumOf_33 : decode cX8_sumOf 33 = .ok (.iload 5, 2) := by decide +kernel
theorem dX8_sumOf_35 : decode cX8_sumOf 35 = .ok (.iload_n 2, 1) := by decide +kernel
theorem dX8_sumOf_36 : decode cX8_sumOf 36 = .ok (.aload_n 0, 1) := by decide +kernel
theorem dX8_sumOf_37 : decode cX8_sumOf 37 = .ok (.getfield 21, 3) := by decide +kernel
theorem dX8_sumOf_40 : decode cX8_sumOf 40 = .ok (.getfield 144, 3) := by decide +kernel
theorem dX8_sumOf_43 : decode cX8_sumOf 43 = .ok (.invokevirtual 154, 3) := by decide +kernel
theorem dX8_sumOf_46 : decode cX8_sumOf 46 = .ok (.ifCond .eq 18, 3) := by decide +kernel
theorem dX8_sumOf_49 : decode cX8_sumOf 49 = .ok (.iload 4, 2) := by decide +kernel
theorem dX8_sumOf_51 : decode cX8_sumOf 51 = .ok (.aload_n 0, 1) := by decide +kernel
theorem dX8_sumOf_52 : decode cX8_sumOf 52 = .ok (.getfield 33, 3) := by decide +kernel
theorem dX8_sumOf_55 : decode cX8_sumOf 55 = .ok (.iload 5, 2) := by decide +kernel
theorem dX8_sumOf_57 : decode cX8_sumOf 57 = .ok (.iconst 2, 1) := by decide +kernel
theorem dX8_sumOf_58 : decode cX8_sumOf 58 = .ok (.invokevirtual 107, 3) := by decide +kernel
theorem dX8_sumOf_61 : decode cX8_sumOf 61 = .ok (.iadd, 1) := by decide +kernel
theorem dX8_sumOf_62 : decode cX8_sumOf 62 = .ok (.istore 4, 2) := by decide +kernel
theorem dX8_sumOf_64 : decode cX8_sumOf 64 = .ok (.iinc 5 1, 3) := by decide +kernel
theorem dX8_sumOf_67 : decode cX8_sumOf 67 = .ok (.goto (-61), 3) := by decide +kernel
theorem dX8_sumOf_70 : decode cX8_sumOf 70 = .ok (.iload 4, 2) := by decide +kernel
theorem dX8_sumOf_72 : decode cX8_sumOf 72 = .ok (.ireturn, 1) := by decide +kernel
def fX8_sumOf_L6 (a1 : Int32) (a2 : Int32) (a3 : Int32) (h : fd_H) : Nat → Int32 → Int32 → Option (Int32)
  | 0 => fun _ _ => none
  | n + 1 => fun v4 v5 =>
if (h.1 48 1) ≤ v5 then (
some (v4))
else (
(fX0_fact v5 a3 h).bind fun r3 =>
if r3 = a1 then (
(fX8_isStanding v5 a2 46 h).bind fun r6 =>
if r6 = true then (
(fX0_fact v5 (2 : Int32) h).bind fun r9 =>
fd_lt ((v4 + r9)) fun x10 =>
fX8_sumOf_L6 a1 a2 a3 h n x10 (v5 + (1 : Int32)))
else (
fX8_sumOf_L6 a1 a2 a3 h n v4 (v5 + (1 : Int32))))
else (
fX8_sumOf_L6 a1 a2 a3 h n v4 (v5 + (1 : Int32))))
set_option maxRecDepth 100000 in
set_option maxHeartbeats 4000000 in
theorem sX8_sumOf_L6 {g : fd_G} {hm : fd_H} {a1 : Int32} {a2 : Int32} {a3 : Int32} {h : fd_H} {r : Int32} : ∀ (n : Nat) (v4 : Int32) (v5 : Int32), fX8_sumOf_L6 a1 a2 a3 h n v4 v5 = some r → fd_A g mX8_sumOf fd_E (fd_rm 3 0 0) (fd_Q g (some (.int r)) fd_X0 (fd_mx h hm) 0 0) 6 [(0, .ref (g.2.2.2 + 0)), (1, .int a1), (2, .int a2), (3, .int a3), (4, .int v4), (5, .int v5)] [] fd_X0 (fd_mx h hm) 0 0 := by
  intro n
  induction n with
  | zero =>
    intro _ _ hf
    cases hf
  | succ n ih =>
    intro v4 v5 hf
    rw [fX8_sumOf_L6] at hf
    refine fr_iload (pc := 6) dX8_sumOf_6 5 rfl ?_
    refine fr_aload_n (pc := 8) dX8_sumOf_8 0 rfl rfl ?_
    refine fr_getR (pc := 9) dX8_sumOf_9 fl_X8_33 (by decide) rfl rfl ?_
    refine vx_getI (pc := 12) dX8_sumOf_12 fl_X8_104 (by decide) (by decide) rfl rfl ?_
    refine fr_icmp_ge (pc := 15) 70 dX8_sumOf_15 (by decide) (fun c1 => ?_) (fun c1 => ?_)
    · have hf := fd_t c1 hf
      refine fr_iload (pc := 70) dX8_sumOf_70 4 rfl ?_
      exact fr_iretP (x := v4) (pc := 72) dX8_sumOf_72 rfl hf
    · have hf := fd_f c1 hf
      refine fr_aload_n (pc := 18) dX8_sumOf_18 0 rfl rfl ?_
      refine fr_getR (pc := 19) dX8_sumOf_19 fl_X8_33 (by decide) rfl rfl ?_
      refine fr_iload (pc := 22) dX8_sumOf_22 5 rfl ?_
      refine fr_iload_n (pc := 24) dX8_sumOf_24 3 rfl rfl ?_
      obtain ⟨r3, hc2, hf⟩ := fd_bi hf
      refine fr_callVi (pc := 25) (av := [.int v5, .int a3]) dX8_sumOf_25 yy_X0_fact kw_195 (by decide) rfl rfl rfl rfl (Nat.le_of_ble_eq_true rfl) ⟨Nat.le_of_ble_eq_true rfl, Nat.le_of_ble_eq_true rfl, Nat.zero_le _, Nat.zero_le _⟩ (sX0_fact hc2) ?_
      refine fr_iload_n (pc := 28) dX8_sumOf_28 1 rfl rfl ?_
      refine fr_icmp_ne (pc := 29) 64 dX8_sumOf_29 (by decide) (fun c4 => ?_) (fun c4 => ?_)
      · have hf := fd_f c4 hf
        refine fr_iinc (pc := 64) (v := (v5 + (1 : Int32))) (lv' := [(5, .int (v5 + (1 : Int32))), (0, .ref (g.2.2.2 + 0)), (1, .int a1), (2, .int a2), (3, .int a3), (4, .int v4)]) dX8_sumOf_64 5 rfl rfl (by decide) rfl ?_
        refine fr_goto (pc := 67) 6 dX8_sumOf_67 (by decide) ?_
        refine fr_loc (lv' := [(0, .ref (g.2.2.2 + 0)), (1, .int a1), (2, .int a2), (3, .int a3), (4, .int v4), (5, .int (v5 + (1 : Int32)))]) [1, 2, 3, 4, 5, 0] rfl ?_
        exact ih _ _ hf
      · have hf := fd_t c4 hf
        refine fr_aload_n (pc := 32) dX8_sumOf_32 0 rfl rfl ?_
        refine fr_iload (pc := 33) dX8_sumOf_33 5 rfl ?_
        refine fr_iload_n (pc := 35) dX8_sumOf_35 2 rfl rfl ?_
        refine fr_aload_n (pc := 36) dX8_sumOf_36 0 rfl rfl ?_
        refine fr_getR (pc := 37) dX8_sumOf_37 fl_X8_21 (by decide) rfl rfl ?_
        refine fr_getR (pc := 40) dX8_sumOf_40 fl_X8_144 (by decide) rfl rfl ?_
        obtain ⟨r6, hc5, hf⟩ := fd_bi hf
        refine fr_callVz (pc := 43) (av := [.int v5, .int a2, .ref (g.2.2.2 + 46)]) dX8_sumOf_43 yy_X8_isStanding kw_305 (by decide) rfl rfl rfl rfl (Nat.le_of_ble_eq_true rfl) ⟨Nat.le_of_ble_eq_true rfl, Nat.le_of_ble_eq_true rfl, Nat.zero_le _, Nat.zero_le _⟩ (sX8_isStanding is_46 hc5) ?_
        refine fr_bz (pc := 46) 64 dX8_sumOf_46 (by decide) (fun c7 => ?_) (fun c7 => ?_)
        · have hf := fd_f c7 hf
          refine fr_iinc (pc := 64) (v := (v5 + (1 : Int32))) (lv' := [(5, .int (v5 + (1 : Int32))), (0, .ref (g.2.2.2 + 0)), (1, .int a1), (2, .int a2), (3, .int a3), (4, .int v4)]) dX8_sumOf_64 5 rfl rfl (by decide) rfl ?_
          refine fr_goto (pc := 67) 6 dX8_sumOf_67 (by decide) ?_
          refine fr_loc (lv' := [(0, .ref (g.2.2.2 + 0)), (1, .int a1), (2, .int a2), (3, .int a3), (4, .int v4), (5, .int (v5 + (1 : Int32)))]) [1, 2, 3, 4, 5, 0] rfl ?_
          exact ih _ _ hf
        · have hf := fd_t c7 hf
          refine fr_iload (pc := 49) dX8_sumOf_49 4 rfl ?_
          refine fr_aload_n (pc := 51) dX8_sumOf_51 0 rfl rfl ?_
          refine fr_getR (pc := 52) dX8_sumOf_52 fl_X8_33 (by decide) rfl rfl ?_
          refine fr_iload (pc := 55) dX8_sumOf_55 5 rfl ?_
          refine fr_iconst (pc := 57) (v := (2 : Int32)) dX8_sumOf_57 (by decide) ?_
          obtain ⟨r9, hc8, hf⟩ := fd_bi hf
          refine fr_callVi (pc := 58) (av := [.int v5, .int (2 : Int32)]) dX8_sumOf_58 yy_X0_fact kw_195 (by decide) rfl rfl rfl rfl (Nat.le_of_ble_eq_true rfl) ⟨Nat.le_of_ble_eq_true rfl, Nat.le_of_ble_eq_true rfl, Nat.zero_le _, Nat.zero_le _⟩ (sX0_fact hc8) ?_
          refine fr_iadd (pc := 61) dX8_sumOf_61 ?_
          obtain ⟨x10, ex10, hf⟩ := fd_lt_e hf
          refine fr_nmi ex10 ?_
          refine fr_istore (pc := 62) (lv' := [(4, .int x10), (0, .ref (g.2.2.2 + 0)), (1, .int a1), (2, .int a2), (3, .int a3), (5, .int v5)]) dX8_sumOf_62 (by decide) rfl ?_
          refine fr_iinc (pc := 64) (v := (v5 + (1 : Int32))) (lv' := [(5, .int (v5 + (1 : Int32))), (4, .int x10), (0, .ref (g.2.2.2 + 0)), (1, .int a1), (2, .int a2), (3, .int a3)]) dX8_sumOf_64 5 rfl rfl (by decide) rfl ?_
          refine fr_goto (pc := 67) 6 dX8_sumOf_67 (by decide) ?_
          refine fr_loc (lv' := [(0, .ref (g.2.2.2 + 0)), (1, .int a1), (2, .int a2), (3, .int a3), (4, .int x10), (5, .int (v5 + (1 : Int32)))]) [2, 3, 4, 5, 1, 0] rfl ?_
          exact ih _ _ hf
def fX8_sumOf (a1 : Int32) (a2 : Int32) (a3 : Int32) (h : fd_H) : Option (Int32) :=
fX8_sumOf_L6 a1 a2 a3 h fd_fu (0 : Int32) (0 : Int32)
set_option maxRecDepth 100000 in
set_option maxHeartbeats 4000000 in
theorem sX8_sumOf {g : fd_G} {hm : fd_H} {a1 : Int32} {a2 : Int32} {a3 : Int32} {h : fd_H} {r : Int32} (hf : fX8_sumOf a1 a2 a3 h = some r) : fd_S g mX8_sumOf 3 [.ref (g.2.2.2 + 0), .int a1, .int a2, .int a3] fd_X0 (fd_mx h hm) (some (.int r)) fd_X0 (fd_mx h hm) 0 0 := by
  refine fd_S.of (by decide +kernel) (Nat.le_of_ble_eq_true rfl) ?_
  unfold fX8_sumOf at hf
  refine fr_loc (lv' := [(0, .ref (g.2.2.2 + 0)), (1, .int a1), (2, .int a2), (3, .int a3)]) [0, 1, 2, 3] rfl ?_
  refine fr_iconst (pc := 0) (v := (0 : Int32)) dX8_sumOf_0 (by decide) ?_
  refine fr_istore (pc := 1) (lv' := [(4, .int (0 : Int32)), (0, .ref (g.2.2.2 + 0)), (1, .int a1), (2, .int a2), (3, .int a3)]) dX8_sumOf_1 (by decide) rfl ?_
  refine fr_iconst (pc := 3) (v := (0 : Int32)) dX8_sumOf_3 (by decide) ?_
  refine fr_istore (pc := 4) (lv' := [(5, .int (0 : Int32)), (4, .int (0 : Int32)), (0, .ref (g.2.2.2 + 0)), (1, .int a1), (2, .int a2), (3, .int a3)]) dX8_sumOf_4 (by decide) rfl ?_
  refine fr_loc (lv' := [(0, .ref (g.2.2.2 + 0)), (1, .int a1), (2, .int a2), (3, .int a3), (4, .int (0 : Int32)), (5, .int (0 : Int32))]) [2, 3, 4, 5, 1, 0] rfl ?_
  exact sX8_sumOf_L6 _  _ _ hf
theorem dX8_leftAtWorst_0 : decode cX8_leftAtWorst 0 = .ok (.iconst 0, 1) := by decide +kernel
theorem dX8_leftAtWorst_1 : decode cX8_leftAtWorst 1 = .ok (.istore 4, 2) := by decide +kernel
theorem dX8_leftAtWorst_3 : decode cX8_leftAtWorst 3 = .ok (.iconst 0, 1) := by decide +kernel
theorem dX8_leftAtWorst_4 : decode cX8_leftAtWorst 4 = .ok (.istore 5, 2) := by decide +kernel
theorem dX8_leftAtWorst_6 : decode cX8_leftAtWorst 6 = .ok (.iconst 0, 1) := by decide +kernel
theorem dX8_leftAtWorst_7 : decode cX8_leftAtWorst 7 = .ok (.istore 6, 2) := by decide +kernel
theorem dX8_leftAtWorst_9 : decode cX8_leftAtWorst 9 = .ok (.iload 6, 2) := by decide +kernel
theorem dX8_leftAtWorst_11 : decode cX8_leftAtWorst 11 = .ok (.bipush 26, 2) := by decide +kernel
theorem dX8_leftAtWorst_13 : decode cX8_leftAtWorst 13 = .ok (.if_icmp .ge 52, 3) := by decide +kernel
theorem dX8_leftAtWorst_16 : decode cX8_leftAtWorst 16 = .ok (.iload_n 1, 1) := by decide +kernel
theorem dX8_leftAtWorst_17 : decode cX8_leftAtWorst 17 = .ok (.i2l, 1) := by decide +kernel
theorem dX8_leftAtWorst_18 : decode cX8_leftAtWorst 18 = .ok (.iload 6, 2) := by decide +kernel
theorem dX8_leftAtWorst_20 : decode cX8_leftAtWorst 20 = .ok (.invokestatic 140, 3) := by decide +kernel
theorem dX8_leftAtWorst_23 : decode cX8_leftAtWorst 23 = .ok (.ifCond .ne 6, 3) := by decide +kernel
theorem dX8_leftAtWorst_26 : decode cX8_leftAtWorst 26 = .ok (.goto 33, 3) := by decide +kernel
theorem dX8_leftAtWorst_29 : decode cX8_leftAtWorst 29 = .ok (.aload_n 0, 1) := by decide +kernel
theorem dX8_leftAtWorst_30 : decode cX8_leftAtWorst 30 = .ok (.getfield 21, 3) := by decide +kernel
theorem dX8_leftAtWorst_33 : decode cX8_leftAtWorst 33 = .ok (.iload_n 3, 1) := by decide +kernel
theorem dX8_leftAtWorst_34 : decode cX8_leftAtWorst 34 = .ok (.iload_n 2, 1) := by decide +kernel
theorem dX8_leftAtWorst_35 : decode cX8_leftAtWorst 35 = .ok (.iload 6, 2) := by decide +kernel
theorem dX8_leftAtWorst_37 : decode cX8_leftAtWorst 37 = .ok (.invokevirtual 206, 3) := by decide +kernel
theorem dX8_leftAtWorst_40 : decode cX8_leftAtWorst 40 = .ok (.iload_n 2, 1) := by decide +kernel
theorem dX8_leftAtWorst_41 : decode cX8_leftAtWorst 41 = .ok (.invokestatic 176, 3) := by decide +kernel
theorem dX8_leftAtWorst_44 : decode cX8_leftAtWorst 44 = .ok (.land, 1) := by decide +kernel
theorem dX8_leftAtWorst_45 : decode cX8_leftAtWorst 45 = .ok (.lconst 0, 1) := by decide +kernel
theorem dX8_leftAtWorst_46 : decode cX8_leftAtWorst 46 = .ok (.lcmp, 1) := by decide +kernel
theorem dX8_leftAtWorst_47 : decode cX8_leftAtWorst 47 = .ok (.ifCond .eq 9, 3) := by decide +kernel
theorem dX8_leftAtWorst_50 : decode cX8_leftAtWorst 50 = .ok (.iinc 4 1, 3) := by decide +kernel
theorem dX8_leftAtWorst_53 : decode cX8_leftAtWorst 53 = .ok (.goto 6, 3) := by decide +kernel
theorem dX8_leftAtWorst_56 : decode cX8_leftAtWorst 56 = .ok (.iinc 5 1, 3) := by decide +kernel
theorem dX8_leftAtWorst_59 : decode cX8_leftAtWorst 59 = .ok (.iinc 6 1, 3) := by decide +kernel
theorem dX8_leftAtWorst_62 : decode cX8_leftAtWorst 62 = .ok (.goto (-53), 3) := by decide +kernel
theorem dX8_leftAtWorst_65 : decode cX8_leftAtWorst 65 = .ok (.iload 4, 2) := by decide +kernel
theorem dX8_leftAtWorst_67 : decode cX8_leftAtWorst 67 = .ok (.iload 5, 2) := by decide +kernel
theorem dX8_leftAtWorst_69 : decode cX8_leftAtWorst 69 = .ok (.invokestatic 168, 3) := by decide +kernel
theorem dX8_leftAtWorst_72 : decode cX8_leftAtWorst 72 = .ok (.ireturn, 1) := by decide +kernel
def fX8_leftAtWorst_L9 (a1 : Int32) (a2 : Int32) (a3 : Int32) (h : fd_H) : Nat → Int32 → Int32 → Int32 → Option (Int32)
  | 0 => fun _ _ _ => none
  | n + 1 => fun v4 v5 v6 =>
if (26 : Int32) ≤ v6 then (
some ((fd_max v4 v5)))
else (
(fX8_hasBit ((a1).toInt64) v6).bind fun r3 =>
if r3 = true then (
(fX7_frostsIfWarm a3 a2 v6 h).bind fun r6 =>
(fX8_bitsUpTo a2).bind fun r8 =>
if (lg_cmp (r6 &&& r8) (0 : Int64)) = 0 then (
fX8_leftAtWorst_L9 a1 a2 a3 h n v4 (v5 + (1 : Int32)) (v6 + (1 : Int32)))
else (
fX8_leftAtWorst_L9 a1 a2 a3 h n (v4 + (1 : Int32)) v5 (v6 + (1 : Int32))))
else (
fX8_leftAtWorst_L9 a1 a2 a3 h n v4 v5 (v6 + (1 : Int32))))
set_option maxRecDepth 100000 in
set_option maxHeartbeats 4000000 in
theorem sX8_leftAtWorst_L9 {g : fd_G} {hm : fd_H} {a1 : Int32} {a2 : Int32} {a3 : Int32} {h : fd_H} {r : Int32} : ∀ (n : Nat) (v4 : Int32) (v5 : Int32) (v6 : Int32), fX8_leftAtWorst_L9 a1 a2 a3 h n v4 v5 v6 = some r → fd_A g mX8_leftAtWorst fd_E (fd_rm 3 0 0) (fd_Q g (some (.int r)) fd_X0 (fd_mx h hm) 0 0) 9 [(0, .ref (g.2.2.2 + 0)), (1, .int a1), (2, .int a2), (3, .int a3), (4, .int v4), (5, .int v5), (6, .int v6)] [] fd_X0 (fd_mx h hm) 0 0 := by
  intro n
  induction n with
  | zero =>
    intro _ _ _ hf
    cases hf
  | succ n ih =>
    intro v4 v5 v6 hf
    rw [fX8_leftAtWorst_L9] at hf
    refine fr_iload (pc := 9) dX8_leftAtWorst_9 6 rfl ?_
    refine fr_bipush (pc := 11) (v := (26 : Int32)) dX8_leftAtWorst_11 (by decide) ?_
    refine fr_icmp_ge (pc := 13) 65 dX8_leftAtWorst_13 (by decide) (fun c1 => ?_) (fun c1 => ?_)
    · have hf := fd_t c1 hf
      refine fr_iload (pc := 65) dX8_leftAtWorst_65 4 rfl ?_
      refine fr_iload (pc := 67) dX8_leftAtWorst_67 5 rfl ?_
      refine fr_max (pc := 69) dX8_leftAtWorst_69 kw_340 (Nat.le_of_ble_eq_true rfl) (Nat.le_of_ble_eq_true rfl) (Nat.zero_le _) (Nat.zero_le _) ?_
      exact fr_iretP (x := (fd_max v4 v5)) (pc := 72) dX8_leftAtWorst_72 rfl hf
    · have hf := fd_f c1 hf
      refine fr_iload_n (pc := 16) dX8_leftAtWorst_16 1 rfl rfl ?_
      refine fr_i2l (pc := 17) dX8_leftAtWorst_17 ?_
      refine fr_iload (pc := 18) dX8_leftAtWorst_18 6 rfl ?_
      obtain ⟨r3, hc2, hf⟩ := fd_bi hf
      refine fr_callSz (pc := 20) (av := [.long ((a1).toInt64), .int v6]) dX8_leftAtWorst_20 yy_X8_hasBit kw_121 rfl rfl (Nat.le_of_ble_eq_true rfl) ⟨Nat.le_of_ble_eq_true rfl, Nat.le_of_ble_eq_true rfl, Nat.zero_le _, Nat.zero_le _⟩ (sX8_hasBit hc2) ?_
      refine fr_bn (pc := 23) 29 dX8_leftAtWorst_23 (by decide) (fun c4 => ?_) (fun c4 => ?_)
      · have hf := fd_t c4 hf
        refine fr_aload_n (pc := 29) dX8_leftAtWorst_29 0 rfl rfl ?_
        refine fr_getR (pc := 30) dX8_leftAtWorst_30 fl_X8_21 (by decide) rfl rfl ?_
        refine fr_iload_n (pc := 33) dX8_leftAtWorst_33 3 rfl rfl ?_
        refine fr_iload_n (pc := 34) dX8_leftAtWorst_34 2 rfl rfl ?_
        refine fr_iload (pc := 35) dX8_leftAtWorst_35 6 rfl ?_
        obtain ⟨r6, hc5, hf⟩ := fd_bi hf
        refine fr_callVl (pc := 37) (av := [.int a3, .int a2, .int v6]) dX8_leftAtWorst_37 yy_X7_frostsIfWarm kw_318 (by decide) rfl rfl rfl rfl (Nat.le_of_ble_eq_true rfl) ⟨Nat.le_of_ble_eq_true rfl, Nat.le_of_ble_eq_true rfl, Nat.zero_le _, Nat.zero_le _⟩ (sX7_frostsIfWarm hc5) ?_
        refine fr_iload_n (pc := 40) dX8_leftAtWorst_40 2 rfl rfl ?_
        obtain ⟨r8, hc7, hf⟩ := fd_bi hf
        refine fr_callSl (pc := 41) (av := [.int a2]) dX8_leftAtWorst_41 yy_X8_bitsUpTo kw_203 rfl rfl (Nat.le_of_ble_eq_true rfl) ⟨Nat.le_of_ble_eq_true rfl, Nat.le_of_ble_eq_true rfl, Nat.zero_le _, Nat.zero_le _⟩ (sX8_bitsUpTo hc7) ?_
        refine fr_land (pc := 44) dX8_leftAtWorst_44 ?_
        refine fr_lconst (pc := 45) (v := (0 : Int64)) dX8_leftAtWorst_45 (by decide) ?_
        refine fr_lcmp (pc := 46) dX8_leftAtWorst_46 ?_
        refine fr_if_eq (pc := 47) 56 dX8_leftAtWorst_47 (by decide) (fun c9 => ?_) (fun c9 => ?_)
        · have hf := fd_t c9 hf
          refine fr_iinc (pc := 56) (v := (v5 + (1 : Int32))) (lv' := [(5, .int (v5 + (1 : Int32))), (0, .ref (g.2.2.2 + 0)), (1, .int a1), (2, .int a2), (3, .int a3), (4, .int v4), (6, .int v6)]) dX8_leftAtWorst_56 5 rfl rfl (by decide) rfl ?_
          refine fr_iinc (pc := 59) (v := (v6 + (1 : Int32))) (lv' := [(6, .int (v6 + (1 : Int32))), (5, .int (v5 + (1 : Int32))), (0, .ref (g.2.2.2 + 0)), (1, .int a1), (2, .int a2), (3, .int a3), (4, .int v4)]) dX8_leftAtWorst_59 6 rfl rfl (by decide) rfl ?_
          refine fr_goto (pc := 62) 9 dX8_leftAtWorst_62 (by decide) ?_
          refine fr_loc (lv' := [(0, .ref (g.2.2.2 + 0)), (1, .int a1), (2, .int a2), (3, .int a3), (4, .int v4), (5, .int (v5 + (1 : Int32))), (6, .int (v6 + (1 : Int32)))]) [2, 3, 4, 5, 6, 1, 0] rfl ?_
          exact ih _ _ _ hf
        · have hf := fd_f c9 hf
          refine fr_iinc (pc := 50) (v := (v4 + (1 : Int32))) (lv' := [(4, .int (v4 + (1 : Int32))), (0, .ref (g.2.2.2 + 0)), (1, .int a1), (2, .int a2), (3, .int a3), (5, .int v5), (6, .int v6)]) dX8_leftAtWorst_50 4 rfl rfl (by decide) rfl ?_
          refine fr_goto (pc := 53) 59 dX8_leftAtWorst_53 (by decide) ?_
          refine fr_iinc (pc := 59) (v := (v6 + (1 : Int32))) (lv' := [(6, .int (v6 + (1 : Int32))), (4, .int (v4 + (1 : Int32))), (0, .ref (g.2.2.2 + 0)), (1, .int a1), (2, .int a2), (3, .int a3), (5, .int v5)]) dX8_leftAtWorst_59 6 rfl rfl (by decide) rfl ?_
          refine fr_goto (pc := 62) 9 dX8_leftAtWorst_62 (by decide) ?_
          refine fr_loc (lv' := [(0, .ref (g.2.2.2 + 0)), (1, .int a1), (2, .int a2), (3, .int a3), (4, .int (v4 + (1 : Int32))), (5, .int v5), (6, .int (v6 + (1 : Int32)))]) [2, 3, 4, 5, 1, 6, 0] rfl ?_
          exact ih _ _ _ hf
      · have hf := fd_f c4 hf
        refine fr_goto (pc := 26) 59 dX8_leftAtWorst_26 (by decide) ?_
        refine fr_iinc (pc := 59) (v := (v6 + (1 : Int32))) (lv' := [(6, .int (v6 + (1 : Int32))), (0, .ref (g.2.2.2 + 0)), (1, .int a1), (2, .int a2), (3, .int a3), (4, .int v4), (5, .int v5)]) dX8_leftAtWorst_59 6 rfl rfl (by decide) rfl ?_
        refine fr_goto (pc := 62) 9 dX8_leftAtWorst_62 (by decide) ?_
        refine fr_loc (lv' := [(0, .ref (g.2.2.2 + 0)), (1, .int a1), (2, .int a2), (3, .int a3), (4, .int v4), (5, .int v5), (6, .int (v6 + (1 : Int32)))]) [1, 2, 3, 4, 5, 6, 0] rfl ?_
        exact ih _ _ _ hf
def fX8_leftAtWorst (a1 : Int32) (a2 : Int32) (a3 : Int32) (h : fd_H) : Option (Int32) :=
fX8_leftAtWorst_L9 a1 a2 a3 h fd_fu (0 : Int32) (0 : Int32) (0 : Int32)
set_option maxRecDepth 100000 in
set_option maxHeartbeats 4000000 in
theorem sX8_leftAtWorst {g : fd_G} {hm : fd_H} {a1 : Int32} {a2 : Int32} {a3 : Int32} {h : fd_H} {r : Int32} (hf : fX8_leftAtWorst a1 a2 a3 h = some r) : fd_S g mX8_leftAtWorst 3 [.ref (g.2.2.2 + 0), .int a1, .int a2, .int a3] fd_X0 (fd_mx h hm) (some (.int r)) fd_X0 (fd_mx h hm) 0 0 := by
  refine fd_S.of (by decide +kernel) (Nat.le_of_ble_eq_true rfl) ?_
  unfold fX8_leftAtWorst at hf
  refine fr_loc (lv' := [(0, .ref (g.2.2.2 + 0)), (1, .int a1), (2, .int a2), (3, .int a3)]) [0, 1, 2, 3] rfl ?_
  refine fr_iconst (pc := 0) (v := (0 : Int32)) dX8_leftAtWorst_0 (by decide) ?_
  refine fr_istore (pc := 1) (lv' := [(4, .int (0 : Int32)), (0, .ref (g.2.2.2 + 0)), (1, .int a1), (2, .int a2), (3, .int a3)]) dX8_leftAtWorst_1 (by decide) rfl ?_
  refine fr_iconst (pc := 3) (v := (0 : Int32)) dX8_leftAtWorst_3 (by decide) ?_
  refine fr_istore (pc := 4) (lv' := [(5, .int (0 : Int32)), (4, .int (0 : Int32)), (0, .ref (g.2.2.2 + 0)), (1, .int a1), (2, .int a2), (3, .int a3)]) dX8_leftAtWorst_4 (by decide) rfl ?_
  refine fr_iconst (pc := 6) (v := (0 : Int32)) dX8_leftAtWorst_6 (by decide) ?_
  refine fr_istore (pc := 7) (lv' := [(6, .int (0 : Int32)), (5, .int (0 : Int32)), (4, .int (0 : Int32)), (0, .ref (g.2.2.2 + 0)), (1, .int a1), (2, .int a2), (3, .int a3)]) dX8_leftAtWorst_7 (by decide) rfl ?_
  refine fr_loc (lv' := [(0, .ref (g.2.2.2 + 0)), (1, .int a1), (2, .int a2), (3, .int a3), (4, .int (0 : Int32)), (5, .int (0 : Int32)), (6, .int (0 : Int32))]) [3, 4, 5, 6, 2, 1, 0] rfl ?_
  exact sX8_leftAtWorst_L9 _  _ _ _ hf
