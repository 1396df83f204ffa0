theorem dX9_readsParts_0 : decode cX9_readsParts 0 = .ok (.iload_n 1, 1) := by decide +kernel
theorem dX9_readsParts_1 : decode cX9_readsParts 1 = .ok (.ifCond .ne 7, 3) := by decide +kernel
theorem dX9_readsParts_4 : decode cX9_readsParts 4 = .ok (.iconst 2, 1) := by decide +kernel
theorem dX9_readsParts_5 : decode cX9_readsParts 5 = .ok (.goto 5, 3) := by decide +kernel
theorem dX9_readsParts_8 : decode cX9_readsParts 8 = .ok (.bipush 7, 2) := by decide +kernel
theorem dX9_readsParts_10 : decode cX9_readsParts 10 = .ok (.istore_n 2, 1) := by decide +kernel
theorem dX9_readsParts_11 : decode cX9_readsParts 11 = .ok (.iload_n 1, 1) := by decide +kernel
theorem dX9_readsParts_12 : decode cX9_readsParts 12 = .ok (.ifCond .ne 8, 3) := by decide +kernel
theorem dX9_readsParts_15 : decode cX9_readsParts 15 = .ok (.bipush 8, 2) := by decide +kernel
theorem dX9_readsParts_17 : decode cX9_readsParts 17 = .ok (.goto 5, 3) := by decide +kernel
theorem dX9_readsParts_20 : decode cX9_readsParts 20 = .ok (.bipush 9, 2) := by decide +kernel
theorem dX9_readsParts_22 : decode cX9_readsParts 22 = .ok (.istore_n 3, 1) := by decide +kernel
theorem dX9_readsParts_23 : decode cX9_readsParts 23 = .ok (.iconst 0, 1) := by decide +kernel
theorem dX9_readsParts_24 : decode cX9_readsParts 24 = .ok (.istore 4, 2) := by decide +kernel
theorem dX9_readsParts_26 : decode cX9_readsParts 26 = .ok (.iconst 0, 1) := by decide +kernel
theorem dX9_readsParts_27 : decode cX9_readsParts 27 = .ok (.istore 5, 2) := by decide +kernel
theorem dX9_readsParts_29 : decode cX9_readsParts 29 = .ok (.aload_n 0, 1) := by decide +kernel
theorem dX9_readsParts_30 : decode cX9_readsParts 30 = .ok (.iload_n 1, 1) := by decide +kernel
theorem dX9_readsParts_31 : decode cX9_readsParts 31 = .ok (.ifCond .ne 7, 3) := by decide +kernel
theorem dX9_readsParts_34 : decode cX9_readsParts 34 = .ok (.iconst 0, 1) := by decide +kernel
theorem dX9_readsParts_35 : decode cX9_readsParts 35 = .ok (.goto 7, 3) := by decide +kernel
theorem dX9_readsParts_38 : decode cX9_readsParts 38 = .ok (.aload_n 0, 1) := by decide +kernel
theorem dX9_readsParts_39 : decode cX9_readsParts 39 = .ok (.getfield 105, 3) := by decide +kernel
theorem dX9_readsParts_42 : decode cX9_readsParts 42 = .ok (.putfield 105, 3) := by decide +kernel
theorem dX9_readsParts_45 : decode cX9_readsParts 45 = .ok (.aload_n 0, 1) := by decide +kernel
theorem dX9_readsParts_46 : decode cX9_readsParts 46 = .ok (.iload_n 1, 1) := by decide +kernel
theorem dX9_readsParts_47 : decode cX9_readsParts 47 = .ok (.iconst 2, 1) := by decide +kernel
theorem dX9_readsParts_48 : decode cX9_readsParts 48 = .ok (.if_icmp .ne 7, 3) := by decide +kernel
theorem dX9_readsParts_51 : decode cX9_readsParts 51 = .ok (.iconst 0, 1) := by decide +kernel
theorem dX9_readsParts_52 : decode cX9_readsParts 52 = .ok (.goto 7, 3) := by decide +kernel
theorem dX9_readsParts_55 : decode cX9_readsParts 55 = .ok (.aload_n 0, 1) := by decide +kernel
theorem dX9_readsParts_56 : decode cX9_readsParts 56 = .ok (.getfield 108, 3) := by decide +kernel
theorem dX9_readsParts_59 : decode cX9_readsParts 59 = .ok (.putfield 108, 3) := by decide +kernel
theorem dX9_readsParts_62 : decode cX9_readsParts 62 = .ok (.iload 5, 2) := by decide +kernel
theorem dX9_readsParts_64 : decode cX9_readsParts 64 = .ok (.aload_n 0, 1) := by decide +kernel
theorem dX9_readsParts_65 : decode cX9_readsParts 65 = .ok (.getfield 7, 3) := by decide +kernel
theorem dX9_readsParts_68 : decode cX9_readsParts 68 = .ok (.iload_n 1, 1) := by decide +kernel
theorem dX9_readsParts_69 : decode cX9_readsParts 69 = .ok (.iaload, 1) := by decide +kernel
theorem dX9_readsParts_70 : decode cX9_readsParts 70 = .ok (.if_icmp .lt 8, 3) := by decide +kernel
theorem dX9_readsParts_73 : decode cX9_readsParts 73 = .ok (.iload 5, 2) := by decide +kernel
theorem dX9_readsParts_75 : decode cX9_readsParts 75 = .ok (.ifCond .le 128, 3) := by decide +kernel
theorem dX9_readsParts_78 : decode cX9_readsParts 78 = .ok (.iload 4, 2) := by decide +kernel
theorem dX9_readsParts_80 : decode cX9_readsParts 80 = .ok (.iload_n 3, 1) := by decide +kernel
theorem dX9_readsParts_81 : decode cX9_readsParts 81 = .ok (.if_icmp .ne 7, 3) := by decide +kernel
theorem dX9_readsParts_84 : decode cX9_readsParts 84 = .ok (.iconst 0, 1) := by decide +kernel
theorem dX9_readsParts_85 : decode cX9_readsParts 85 = .ok (.goto 26, 3) := by decide +kernel
theorem dX9_readsParts_88 : decode cX9_readsParts 88 = .ok (.iload_n 1, 1) := by decide +kernel
theorem dX9_readsParts_89 : decode cX9_readsParts 89 = .ok (.ifCond .ne 14, 3) := by decide +kernel
theorem dX9_readsParts_92 : decode cX9_readsParts 92 = .ok (.aload_n 0, 1) := by decide +kernel
theorem dX9_readsParts_93 : decode cX9_readsParts 93 = .ok (.iload 4, 2) := by decide +kernel
theorem dX9_readsParts_95 : decode cX9_readsParts 95 = .ok (.iload 5, 2) := by decide +kernel
theorem dX9_readsParts_97 : decode cX9_readsParts 97 = .ok (.invokevirtual 111, 3) := by decide +kernel
theorem dX9_readsParts_100 : decode cX9_readsParts 100 = .ok (.goto 11, 3) := by decide +kernel
theorem dX9_readsParts_103 : decode cX9_readsParts 103 = .ok (.aload_n 0, 1) := by decide +kernel
theorem dX9_readsParts_104 : decode cX9_readsParts 104 = .ok (.iload 4, 2) := by decide +kernel
theorem dX9_readsParts_106 : decode cX9_readsParts 106 = .ok (.iload 5, 2) := by decide +kernel
theorem dX9_readsParts_108 : decode cX9_readsParts 108 = .ok (.invokevirtual 114, 3) := by decide +kernel
theorem dX9_readsParts_111 : decode cX9_readsParts 111 = .ok (.istore 6, 2) := by decide +kernel
theorem dX9_readsParts_113 : decode cX9_readsParts 113 = .ok (.iload 6, 2) := by decide +kernel
theorem dX9_readsParts_115 : decode cX9_readsParts 115 = .ok (.iload_n 2, 1) := by decide +kernel
theorem dX9_readsParts_116 : decode cX9_readsParts 116 = .ok (.if_icmp .ge 9, 3) := by decide +kernel
theorem dX9_readsParts_119 : decode cX9_readsParts 119 = .ok (.iload 5, 2) := by decide +kernel
theorem dX9_readsParts_121 : decode cX9_readsParts 121 = .ok (.iload 6, 2) := by decide +kernel
theorem dX9_readsParts_123 : decode cX9_readsParts 123 = .ok (.iadd, 1) := by decide +kernel
theorem dX9_readsParts_124 : decode cX9_readsParts 124 = .ok (.ireturn, 1) := by decide +kernel
theorem dX9_readsParts_125 : decode cX9_readsParts 125 = .ok (.iinc 4 1, 3) := by decide +kernel
theorem dX9_readsParts_128 : decode cX9_readsParts 128 = .ok (.iload 5, 2) := by decide +kernel
theorem dX9_readsParts_130 : decode cX9_readsParts 130 = .ok (.iload_n 2, 1) := by decide +kernel
theorem dX9_readsParts_131 : decode cX9_readsParts 131 = .ok (.iadd, 1) := by decide +kernel
theorem dX9_readsParts_132 : decode cX9_readsParts 132 = .ok (.istore 5, 2) := by decide +kernel
theorem dX9_readsParts_134 : decode cX9_readsParts 134 = .ok (.iload 5, 2) := by decide +kernel
theorem dX9_readsParts_136 : decode cX9_readsParts 136 = .ok (.aload_n 0, 1) := by decide +kernel
theorem dX9_readsParts_137 : decode cX9_readsParts 137 = .ok (.getfield 7, 3) := by decide +kernel
theorem dX9_readsParts_140 : decode cX9_readsParts 140 = .ok (.iload_n 1, 1) := by decide +kernel
theorem dX9_readsParts_141 : decode cX9_readsParts 141 = .ok (.iaload, 1) := by decide +kernel
theorem dX9_readsParts_142 : decode cX9_readsParts 142 = .ok (.if_icmp .ne 40, 3) := by decide +kernel
theorem dX9_readsParts_145 : decode cX9_readsParts 145 = .ok (.aload_n 0, 1) := by decide +kernel
theorem dX9_readsParts_146 : decode cX9_readsParts 146 = .ok (.iload_n 1, 1) := by decide +kernel
theorem dX9_readsParts_147 : decode cX9_readsParts 147 = .ok (.ifCond .ne 8, 3) := by decide +kernel
theorem dX9_readsParts_150 : decode cX9_readsParts 150 = .ok (.iload 4, 2) := by decide +kernel
theorem dX9_readsParts_152 : decode cX9_readsParts 152 = .ok (.goto 7, 3) := by decide +kernel
theorem dX9_readsParts_155 : decode cX9_readsParts 155 = .ok (.aload_n 0, 1) := by decide +kernel
theorem dX9_readsParts_156 : decode cX9_readsParts 156 = .ok (.getfield 105, 3) := by decide +kernel
theorem dX9_readsParts_159 : decode cX9_readsParts 159 = .ok (.putfield 105, 3) := by decide +kernel
theorem dX9_readsParts_162 : decode cX9_readsParts 162 = .ok (.aload_n 0, 1) := by decide +kernel
theorem dX9_readsParts_163 : decode cX9_readsParts 163 = .ok (.iload_n 1, 1) := by decide +kernel
theorem dX9_readsParts_164 : decode cX9_readsParts 164 = .ok (.iconst 2, 1) := by decide +kernel
theorem dX9_readsParts_165 : decode cX9_readsParts 165 = .ok (.if_icmp .ne 8, 3) := by decide +kernel
theorem dX9_readsParts_168 : decode cX9_readsParts 168 = .ok (.iload 4, 2) := by decide +kernel
theorem dX9_readsParts_170 : decode cX9_readsParts 170 = .ok (.goto 7, 3) := by decide +kernel
theorem dX9_readsParts_173 : decode cX9_readsParts 173 = .ok (.aload_n 0, 1) := by decide +kernel
theorem dX9_readsParts_174 : decode cX9_readsParts 174 = .ok (.getfield 108, 3) := by decide +kernel
theorem dX9_readsParts_177 : decode cX9_readsParts 177 = .ok (.putfield 108, 3) := by decide +kernel
theorem dX9_readsParts_180 : decode cX9_readsParts 180 = .ok (.iconst (-1), 1) := by decide +kernel
theorem dX9_readsParts_181 : decode cX9_readsParts 181 = .ok (.ireturn, 1) := by decide +kernel
theorem dX9_readsParts_182 : decode cX9_readsParts 182 = .ok (.aload_n 0, 1) := by decide +kernel
theorem dX9_readsParts_183 : decode cX9_readsParts 183 = .ok (.iload_n 1, 1) := by decide +kernel
theorem dX9_readsParts_184 : decode cX9_readsParts 184 = .ok (.iload 5, 2) := by decide +kernel
theorem dX9_readsParts_186 : decode cX9_readsParts 186 = .ok (.invokevirtual 97, 3) := by decide +kernel
theorem dX9_readsParts_189 : decode cX9_readsParts 189 = .ok (.bipush 59, 2) := by decide +kernel
theorem dX9_readsParts_191 : decode cX9_readsParts 191 = .ok (.if_icmp .eq 6, 3) := by decide +kernel
theorem dX9_readsParts_194 : decode cX9_readsParts 194 = .ok (.iload 5, 2) := by decide +kernel
theorem dX9_readsParts_196 : decode cX9_readsParts 196 = .ok (.ireturn, 1) := by decide +kernel
theorem dX9_readsParts_197 : decode cX9_readsParts 197 = .ok (.iinc 5 1, 3) := by decide +kernel
theorem dX9_readsParts_200 : decode cX9_readsParts 200 = .ok (.goto (-138), 3) := by decide +kernel
theorem dX9_readsParts_203 : decode cX9_readsParts 203 = .ok (.iconst (-1), 1) := by decide +kernel
theorem dX9_readsParts_204 : decode cX9_readsParts 204 = .ok (.ireturn, 1) := by decide +kernel
def fX9_readsParts_L177 (a1 : Int32) (vs0 : Int32) (h : fd_H) : Option (Int32 × fd_H) :=
fd_lt (fd_ui h 73 7 vs0) fun h1 =>
some ((-1 : Int32), h1)
set_option maxRecDepth 100000 in
set_option maxHeartbeats 4000000 in
theorem sX9_readsParts_L177 {g : fd_G} {hm : fd_H} {a1 : Int32} {r : Int32 × fd_H} : ∀ (vs0 : Int32) (h : fd_H), fX9_readsParts_L177 a1 vs0 h = some r → fd_A g mX9_readsParts fd_E (fd_rm 3 0 0) (fd_Q g (some (.int r.1)) fd_X0 (fd_mx hm r.2) 0 0) 177 [] [.int vs0, .ref (g.2.2.2 + 73)] fd_X0 (fd_mx hm h) 0 0 := by
  intro vs0 h hf
  unfold fX9_readsParts_L177 at hf
  obtain ⟨h1, eh1, hf⟩ := fd_lt_e hf
  refine vm_putI (pc := 177) dX9_readsParts_177 fl_X9_108 ft_X9_7 (by decide) (by decide) rfl rfl eh1 ?_
  refine fr_iconst (pc := 180) (v := (-1 : Int32)) dX9_readsParts_180 (by decide) ?_
  exact vm_iretW (x := (-1 : Int32)) (pc := 181) dX9_readsParts_181 rfl hf
def fX9_readsParts_L159 (a1 : Int32) (v4 : Int32) (vs0 : Int32) (h : fd_H) : Option (Int32 × fd_H) :=
fd_lt (fd_ui h 73 2 vs0) fun h1 =>
if a1 = (2 : Int32) then (
fX9_readsParts_L177 a1 v4 h1)
else (
fX9_readsParts_L177 a1 (h1.1 73 7) h1)
set_option maxRecDepth 100000 in
set_option maxHeartbeats 4000000 in
theorem sX9_readsParts_L159 {g : fd_G} {hm : fd_H} {a1 : Int32} {r : Int32 × fd_H} : ∀ (v4 : Int32) (vs0 : Int32) (h : fd_H), fX9_readsParts_L159 a1 v4 vs0 h = some r → fd_A g mX9_readsParts fd_E (fd_rm 3 0 0) (fd_Q g (some (.int r.1)) fd_X0 (fd_mx hm r.2) 0 0) 159 [(0, .ref (g.2.2.2 + 73)), (1, .int a1), (4, .int v4)] [.int vs0, .ref (g.2.2.2 + 73)] fd_X0 (fd_mx hm h) 0 0 := by
  intro v4 vs0 h hf
  unfold fX9_readsParts_L159 at hf
  obtain ⟨h1, eh1, hf⟩ := fd_lt_e hf
  refine vm_putI (pc := 159) dX9_readsParts_159 fl_X9_105 ft_X9_2 (by decide) (by decide) rfl rfl eh1 ?_
  refine fr_aload_n (pc := 162) dX9_readsParts_162 0 rfl rfl ?_
  refine fr_iload_n (pc := 163) dX9_readsParts_163 1 rfl rfl ?_
  refine fr_iconst (pc := 164) (v := (2 : Int32)) dX9_readsParts_164 (by decide) ?_
  refine fr_icmp_ne (pc := 165) 173 dX9_readsParts_165 (by decide) (fun c2 => ?_) (fun c2 => ?_)
  · have hf := fd_f c2 hf
    refine fr_aload_n (pc := 173) dX9_readsParts_173 0 rfl rfl ?_
    refine vm_getI (pc := 174) dX9_readsParts_174 fl_X9_108 (by decide) (by decide) rfl rfl ?_
    refine fr_loc (lv' := []) [] rfl ?_
    exact sX9_readsParts_L177  _ _ hf
  · have hf := fd_t c2 hf
    refine fr_iload (pc := 168) dX9_readsParts_168 2 rfl ?_
    refine fr_goto (pc := 170) 177 dX9_readsParts_170 (by decide) ?_
    refine fr_loc (lv' := []) [] rfl ?_
    exact sX9_readsParts_L177  _ _ hf
def fX9_readsParts_L111 (a1 : Int32) (K62 : Int32 → Int32 → Int32 → Int32 → fd_H → Option (Int32 × fd_H)) (v2 : Int32) (v3 : Int32) (v4 : Int32) (v5 : Int32) (vs0 : Int32) (h : fd_H) : Option (Int32 × fd_H) :=
if v2 ≤ vs0 then (
fd_lt ((v5 + v2)) fun x2 =>
fd_g (fd_in a1 3) (
if x2 = (h.1 74 a1.toNatClampNeg) then (
if a1 = 0 then (
fX9_readsParts_L159 a1 (v4 + (1 : Int32)) (v4 + (1 : Int32)) h)
else (
fX9_readsParts_L159 a1 (v4 + (1 : Int32)) (h.1 73 2) h))
else (
(fX9_byteAt a1 x2 h).bind fun r6 =>
if r6 = (59 : Int32) then (
K62 v2 v3 (v4 + (1 : Int32)) (x2 + (1 : Int32)) h)
else (
some (x2, h)))))
else (
some ((v5 + vs0), h))
set_option maxRecDepth 100000 in
set_option maxHeartbeats 4000000 in
theorem sX9_readsParts_L111 {g : fd_G} {hm : fd_H} {a1 : Int32} {r : Int32 × fd_H} {K62 : Int32 → Int32 → Int32 → Int32 → fd_H → Option (Int32 × fd_H)} (hK62 : ∀ (v2 : Int32) (v3 : Int32) (v4 : Int32) (v5 : Int32) (h : fd_H), K62 v2 v3 v4 v5 h = some r → fd_A g mX9_readsParts fd_E (fd_rm 3 0 0) (fd_Q g (some (.int r.1)) fd_X0 (fd_mx hm r.2) 0 0) 62 [(0, .ref (g.2.2.2 + 73)), (1, .int a1), (2, .int v2), (3, .int v3), (4, .int v4), (5, .int v5)] [] fd_X0 (fd_mx hm h) 0 0) : ∀ (v2 : Int32) (v3 : Int32) (v4 : Int32) (v5 : Int32) (vs0 : Int32) (h : fd_H), fX9_readsParts_L111 a1 K62 v2 v3 v4 v5 vs0 h = some r → fd_A g mX9_readsParts fd_E (fd_rm 3 0 0) (fd_Q g (some (.int r.1)) fd_X0 (fd_mx hm r.2) 0 0) 111 [(0, .ref (g.2.2.2 + 73)), (1, .int a1), (2, .int v2), (3, .int v3), (4, .int v4), (5, .int v5)] [.int vs0] fd_X0 (fd_mx hm h) 0 0 := by
  intro v2 v3 v4 v5 vs0 h hf
  unfold fX9_readsParts_L111 at hf
  refine fr_istore (pc := 111) (lv' := [(6, .int vs0), (0, .ref (g.2.2.2 + 73)), (1, .int a1), (2, .int v2), (3, .int v3), (4, .int v4), (5, .int v5)]) dX9_readsParts_111 (by decide) rfl ?_
  refine fr_iload (pc := 113) dX9_readsParts_113 0 rfl ?_
  refine fr_iload_n (pc := 115) dX9_readsParts_115 3 rfl rfl ?_
  refine fr_icmp_ge (pc := 116) 125 dX9_readsParts_116 (by decide) (fun c1 => ?_) (fun c1 => ?_)
  · have hf := fd_t c1 hf
    refine fr_iinc (pc := 125) (v := (v4 + (1 : Int32))) (lv' := [(4, .int (v4 + (1 : Int32))), (6, .int vs0), (0, .ref (g.2.2.2 + 73)), (1, .int a1), (2, .int v2), (3, .int v3), (5, .int v5)]) dX9_readsParts_125 5 rfl rfl (by decide) rfl ?_
    refine fr_iload (pc := 128) dX9_readsParts_128 6 rfl ?_
    refine fr_iload_n (pc := 130) dX9_readsParts_130 4 rfl rfl ?_
    refine fr_iadd (pc := 131) dX9_readsParts_131 ?_
    obtain ⟨x2, ex2, hf⟩ := fd_lt_e hf
    refine fr_nmi ex2 ?_
    refine fr_istore (pc := 132) (lv' := [(5, .int x2), (4, .int (v4 + (1 : Int32))), (6, .int vs0), (0, .ref (g.2.2.2 + 73)), (1, .int a1), (2, .int v2), (3, .int v3)]) dX9_readsParts_132 (by decide) rfl ?_
    refine fr_iload (pc := 134) dX9_readsParts_134 0 rfl ?_
    refine fr_aload_n (pc := 136) dX9_readsParts_136 3 rfl rfl ?_
    refine fr_getR (pc := 137) dX9_readsParts_137 fl_X9_7 (by decide) rfl rfl ?_
    refine fr_iload_n (pc := 140) dX9_readsParts_140 4 rfl rfl ?_
    obtain ⟨g3, hf⟩ := fd_g_e hf
    refine vm_iald (pc := 141) dX9_readsParts_141 (by decide) (by decide) rfl g3 ?_
    refine fr_icmp_ne (pc := 142) 182 dX9_readsParts_142 (by decide) (fun c4 => ?_) (fun c4 => ?_)
    · have hf := fd_f c4 hf
      refine fr_aload_n (pc := 182) dX9_readsParts_182 3 rfl rfl ?_
      refine fr_iload_n (pc := 183) dX9_readsParts_183 4 rfl rfl ?_
      refine fr_iload (pc := 184) dX9_readsParts_184 0 rfl ?_
      obtain ⟨r6, hc5, hf⟩ := fd_bi hf
      refine fr_callVi (pc := 186) (av := [.int a1, .int x2]) dX9_readsParts_186 yy_X9_byteAt kw_152 (by decide) rfl rfl rfl rfl (Nat.le_of_ble_eq_true rfl) ⟨Nat.le_of_ble_eq_true rfl, Nat.le_of_ble_eq_true rfl, Nat.zero_le _, Nat.zero_le _⟩ (sX9_byteAt hc5) ?_
      refine fr_bipush (pc := 189) (v := (59 : Int32)) dX9_readsParts_189 (by decide) ?_
      refine fr_icmp_eq (pc := 191) 197 dX9_readsParts_191 (by decide) (fun c7 => ?_) (fun c7 => ?_)
      · have hf := fd_t c7 hf
        refine fr_iinc (pc := 197) (v := (x2 + (1 : Int32))) (lv' := [(5, .int (x2 + (1 : Int32))), (4, .int (v4 + (1 : Int32))), (6, .int vs0), (0, .ref (g.2.2.2 + 73)), (1, .int a1), (2, .int v2), (3, .int v3)]) dX9_readsParts_197 0 rfl rfl (by decide) rfl ?_
        refine fr_goto (pc := 200) 62 dX9_readsParts_200 (by decide) ?_
        refine fr_loc (lv' := [(0, .ref (g.2.2.2 + 73)), (1, .int a1), (2, .int v2), (3, .int v3), (4, .int (v4 + (1 : Int32))), (5, .int (x2 + (1 : Int32)))]) [3, 4, 5, 6, 1, 0] rfl ?_
        exact hK62 _ _ _ _ _ hf
      · have hf := fd_f c7 hf
        refine fr_iload (pc := 194) dX9_readsParts_194 0 rfl ?_
        exact vm_iretW (x := x2) (pc := 196) dX9_readsParts_196 rfl hf
    · have hf := fd_t c4 hf
      refine fr_aload_n (pc := 145) dX9_readsParts_145 3 rfl rfl ?_
      refine fr_iload_n (pc := 146) dX9_readsParts_146 4 rfl rfl ?_
      refine fr_if_ne (pc := 147) 155 dX9_readsParts_147 (by decide) (fun c8 => ?_) (fun c8 => ?_)
      · have hf := fd_f c8 hf
        refine fr_aload_n (pc := 155) dX9_readsParts_155 3 rfl rfl ?_
        refine vm_getI (pc := 156) dX9_readsParts_156 fl_X9_105 (by decide) (by decide) rfl rfl ?_
        refine fr_loc (lv' := [(0, .ref (g.2.2.2 + 73)), (1, .int a1), (4, .int (v4 + (1 : Int32)))]) [3, 4, 1] rfl ?_
        exact sX9_readsParts_L159  _ _ _ hf
      · have hf := fd_t c8 hf
        refine fr_iload (pc := 150) dX9_readsParts_150 1 rfl ?_
        refine fr_goto (pc := 152) 159 dX9_readsParts_152 (by decide) ?_
        refine fr_loc (lv' := [(0, .ref (g.2.2.2 + 73)), (1, .int a1), (4, .int (v4 + (1 : Int32)))]) [3, 4, 1] rfl ?_
        exact sX9_readsParts_L159  _ _ _ hf
  · have hf := fd_f c1 hf
    refine fr_iload (pc := 119) dX9_readsParts_119 6 rfl ?_
    refine fr_iload (pc := 121) dX9_readsParts_121 0 rfl ?_
    refine fr_iadd (pc := 123) dX9_readsParts_123 ?_
    exact vm_iretW (x := (v5 + vs0)) (pc := 124) dX9_readsParts_124 rfl hf
def fX9_readsParts_L78 (a1 : Int32) (K62 : Int32 → Int32 → Int32 → Int32 → fd_H → Option (Int32 × fd_H)) (v2 : Int32) (v3 : Int32) (v4 : Int32) (v5 : Int32) (h : fd_H) : Option (Int32 × fd_H) :=
if v4 = v3 then (
fX9_readsParts_L111 a1 K62 v2 v3 v4 v5 (0 : Int32) h)
else (
if a1 = 0 then (
(fX9_readsPlace v4 v5 h).bind fun q6 =>
fX9_readsParts_L111 a1 K62 v2 v3 v4 v5 q6.1 q6.2)
else (
(fX9_readsDebt v4 v5 h).bind fun q4 =>
fX9_readsParts_L111 a1 K62 v2 v3 v4 v5 q4.1 q4.2))
set_option maxRecDepth 100000 in
set_option maxHeartbeats 4000000 in
theorem sX9_readsParts_L78 {g : fd_G} {hm : fd_H} {a1 : Int32} {r : Int32 × fd_H} {K62 : Int32 → Int32 → Int32 → Int32 → fd_H → Option (Int32 × fd_H)} (hK62 : ∀ (v2 : Int32) (v3 : Int32) (v4 : Int32) (v5 : Int32) (h : fd_H), K62 v2 v3 v4 v5 h = some r → fd_A g mX9_readsParts fd_E (fd_rm 3 0 0) (fd_Q g (some (.int r.1)) fd_X0 (fd_mx hm r.2) 0 0) 62 [(0, .ref (g.2.2.2 + 73)), (1, .int a1), (2, .int v2), (3, .int v3), (4, .int v4), (5, .int v5)] [] fd_X0 (fd_mx hm h) 0 0) : ∀ (v2 : Int32) (v3 : Int32) (v4 : Int32) (v5 : Int32) (h : fd_H), fX9_readsParts_L78 a1 K62 v2 v3 v4 v5 h = some r → fd_A g mX9_readsParts fd_E (fd_rm 3 0 0) (fd_Q g (some (.int r.1)) fd_X0 (fd_mx hm r.2) 0 0) 78 [(0, .ref (g.2.2.2 + 73)), (1, .int a1), (2, .int v2), (3, .int v3), (4, .int v4), (5, .int v5)] [] fd_X0 (fd_mx hm h) 0 0 := by
  intro v2 v3 v4 v5 h hf
  unfold fX9_readsParts_L78 at hf
  refine fr_iload (pc := 78) dX9_readsParts_78 4 rfl ?_
  refine fr_iload_n (pc := 80) dX9_readsParts_80 3 rfl rfl ?_
  refine fr_icmp_ne (pc := 81) 88 dX9_readsParts_81 (by decide) (fun c1 => ?_) (fun c1 => ?_)
  · have hf := fd_f c1 hf
    refine fr_iload_n (pc := 88) dX9_readsParts_88 1 rfl rfl ?_
    refine fr_if_ne (pc := 89) 103 dX9_readsParts_89 (by decide) (fun c2 => ?_) (fun c2 => ?_)
    · have hf := fd_f c2 hf
      refine fr_aload_n (pc := 103) dX9_readsParts_103 0 rfl rfl ?_
      refine fr_iload (pc := 104) dX9_readsParts_104 4 rfl ?_
      refine fr_iload (pc := 106) dX9_readsParts_106 5 rfl ?_
      obtain ⟨q4, hc3, hf⟩ := fd_bi hf
      refine fr_callVi (pc := 108) (av := [.int v4, .int v5]) dX9_readsParts_108 yy_X9_readsDebt kw_344 (by decide) rfl rfl rfl rfl (Nat.le_of_ble_eq_true rfl) ⟨Nat.le_of_ble_eq_true rfl, Nat.le_of_ble_eq_true rfl, Nat.zero_le _, Nat.zero_le _⟩ (sX9_readsDebt hc3) ?_
      refine fr_loc (lv' := [(0, .ref (g.2.2.2 + 73)), (1, .int a1), (2, .int v2), (3, .int v3), (4, .int v4), (5, .int v5)]) [0, 1, 2, 3, 4, 5] rfl ?_
      exact sX9_readsParts_L111 hK62  _ _ _ _ _ _ hf
    · have hf := fd_t c2 hf
      refine fr_aload_n (pc := 92) dX9_readsParts_92 0 rfl rfl ?_
      refine fr_iload (pc := 93) dX9_readsParts_93 4 rfl ?_
      refine fr_iload (pc := 95) dX9_readsParts_95 5 rfl ?_
      obtain ⟨q6, hc5, hf⟩ := fd_bi hf
      refine fr_callVi (pc := 97) (av := [.int v4, .int v5]) dX9_readsParts_97 yy_X9_readsPlace kw_348 (by decide) rfl rfl rfl rfl (Nat.le_of_ble_eq_true rfl) ⟨Nat.le_of_ble_eq_true rfl, Nat.le_of_ble_eq_true rfl, Nat.zero_le _, Nat.zero_le _⟩ (sX9_readsPlace hc5) ?_
      refine fr_goto (pc := 100) 111 dX9_readsParts_100 (by decide) ?_
      refine fr_loc (lv' := [(0, .ref (g.2.2.2 + 73)), (1, .int a1), (2, .int v2), (3, .int v3), (4, .int v4), (5, .int v5)]) [0, 1, 2, 3, 4, 5] rfl ?_
      exact sX9_readsParts_L111 hK62  _ _ _ _ _ _ hf
  · have hf := fd_t c1 hf
    refine fr_iconst (pc := 84) (v := (0 : Int32)) dX9_readsParts_84 (by decide) ?_
    refine fr_goto (pc := 85) 111 dX9_readsParts_85 (by decide) ?_
    refine fr_loc (lv' := [(0, .ref (g.2.2.2 + 73)), (1, .int a1), (2, .int v2), (3, .int v3), (4, .int v4), (5, .int v5)]) [0, 1, 2, 3, 4, 5] rfl ?_
    exact sX9_readsParts_L111 hK62  _ _ _ _ _ _ hf
def fX9_readsParts_L62 (a1 : Int32) : Nat → Int32 → Int32 → Int32 → Int32 → fd_H → Option (Int32 × fd_H)
  | 0 => fun _ _ _ _ _ => none
  | n + 1 => fun v2 v3 v4 v5 h =>
fd_g (fd_in a1 3) (
if v5 < (h.1 74 a1.toNatClampNeg) then (
fX9_readsParts_L78 a1 (fX9_readsParts_L62 a1 n) v2 v3 v4 v5 h)
else (
if v5 ≤ 0 then (
some ((-1 : Int32), h))
else (
fX9_readsParts_L78 a1 (fX9_readsParts_L62 a1 n) v2 v3 v4 v5 h)))
set_option maxRecDepth 100000 in
set_option maxHeartbeats 4000000 in
theorem sX9_readsParts_L62 {g : fd_G} {hm : fd_H} {a1 : Int32} {r : Int32 × fd_H} : ∀ (n : Nat) (v2 : Int32) (v3 : Int32) (v4 : Int32) (v5 : Int32) (h : fd_H), fX9_readsParts_L62 a1 n v2 v3 v4 v5 h = some r → fd_A g mX9_readsParts fd_E (fd_rm 3 0 0) (fd_Q g (some (.int r.1)) fd_X0 (fd_mx hm r.2) 0 0) 62 [(0, .ref (g.2.2.2 + 73)), (1, .int a1), (2, .int v2), (3, .int v3), (4, .int v4), (5, .int v5)] [] fd_X0 (fd_mx hm h) 0 0 := by
  intro n
  induction n with
  | zero =>
    intro _ _ _ _ _ hf
    cases hf
  | succ n ih =>
    intro v2 v3 v4 v5 h hf
    rw [fX9_readsParts_L62] at hf
    refine fr_iload (pc := 62) dX9_readsParts_62 5 rfl ?_
    refine fr_aload_n (pc := 64) dX9_readsParts_64 0 rfl rfl ?_
    refine fr_getR (pc := 65) dX9_readsParts_65 fl_X9_7 (by decide) rfl rfl ?_
    refine fr_iload_n (pc := 68) dX9_readsParts_68 1 rfl rfl ?_
    obtain ⟨g1, hf⟩ := fd_g_e hf
    refine vm_iald (pc := 69) dX9_readsParts_69 (by decide) (by decide) rfl g1 ?_
    refine fr_icmp_lt (pc := 70) 78 dX9_readsParts_70 (by decide) (fun c2 => ?_) (fun c2 => ?_)
    · have hf := fd_t c2 hf
      refine fr_loc (lv' := [(0, .ref (g.2.2.2 + 73)), (1, .int a1), (2, .int v2), (3, .int v3), (4, .int v4), (5, .int v5)]) [0, 1, 2, 3, 4, 5] rfl ?_
      exact sX9_readsParts_L78 ih  _ _ _ _ _ hf
    · have hf := fd_f c2 hf
      refine fr_iload (pc := 73) dX9_readsParts_73 5 rfl ?_
      refine fr_if_le (pc := 75) 203 dX9_readsParts_75 (by decide) (fun c3 => ?_) (fun c3 => ?_)
      · have hf := fd_t c3 hf
        refine fr_iconst (pc := 203) (v := (-1 : Int32)) dX9_readsParts_203 (by decide) ?_
        exact vm_iretW (x := (-1 : Int32)) (pc := 204) dX9_readsParts_204 rfl hf
      · have hf := fd_f c3 hf
        refine fr_loc (lv' := [(0, .ref (g.2.2.2 + 73)), (1, .int a1), (2, .int v2), (3, .int v3), (4, .int v4), (5, .int v5)]) [0, 1, 2, 3, 4, 5] rfl ?_
        exact sX9_readsParts_L78 ih  _ _ _ _ _ hf
def fX9_readsParts_L59 (a1 : Int32) (v2 : Int32) (v3 : Int32) (vs0 : Int32) (h : fd_H) : Option (Int32 × fd_H) :=
fd_lt (fd_ui h 73 7 vs0) fun h1 =>
fX9_readsParts_L62 a1 fd_fu v2 v3 (0 : Int32) (0 : Int32) h1
set_option maxRecDepth 100000 in
set_option maxHeartbeats 4000000 in
theorem sX9_readsParts_L59 {g : fd_G} {hm : fd_H} {a1 : Int32} {r : Int32 × fd_H} : ∀ (v2 : Int32) (v3 : Int32) (vs0 : Int32) (h : fd_H), fX9_readsParts_L59 a1 v2 v3 vs0 h = some r → fd_A g mX9_readsParts fd_E (fd_rm 3 0 0) (fd_Q g (some (.int r.1)) fd_X0 (fd_mx hm r.2) 0 0) 59 [(0, .ref (g.2.2.2 + 73)), (1, .int a1), (2, .int v2), (3, .int v3), (4, .int (0 : Int32)), (5, .int (0 : Int32))] [.int vs0, .ref (g.2.2.2 + 73)] fd_X0 (fd_mx hm h) 0 0 := by
  intro v2 v3 vs0 h hf
  unfold fX9_readsParts_L59 at hf
  obtain ⟨h1, eh1, hf⟩ := fd_lt_e hf
  refine vm_putI (pc := 59) dX9_readsParts_59 fl_X9_108 ft_X9_7 (by decide) (by decide) rfl rfl eh1 ?_
  refine fr_loc (lv' := [(0, .ref (g.2.2.2 + 73)), (1, .int a1), (2, .int v2), (3, .int v3), (4, .int (0 : Int32)), (5, .int (0 : Int32))]) [0, 1, 2, 3, 4, 5] rfl ?_
  exact sX9_readsParts_L62 _  _ _ _ _ _ hf
def fX9_readsParts_L42 (a1 : Int32) (v2 : Int32) (v3 : Int32) (vs0 : Int32) (h : fd_H) : Option (Int32 × fd_H) :=
fd_lt (fd_ui h 73 2 vs0) fun h1 =>
if a1 = (2 : Int32) then (
fX9_readsParts_L59 a1 v2 v3 (0 : Int32) h1)
else (
fX9_readsParts_L59 a1 v2 v3 (h1.1 73 7) h1)
set_option maxRecDepth 100000 in
set_option maxHeartbeats 4000000 in
theorem sX9_readsParts_L42 {g : fd_G} {hm : fd_H} {a1 : Int32} {r : Int32 × fd_H} : ∀ (v2 : Int32) (v3 : Int32) (vs0 : Int32) (h : fd_H), fX9_readsParts_L42 a1 v2 v3 vs0 h = some r → fd_A g mX9_readsParts fd_E (fd_rm 3 0 0) (fd_Q g (some (.int r.1)) fd_X0 (fd_mx hm r.2) 0 0) 42 [(0, .ref (g.2.2.2 + 73)), (1, .int a1), (2, .int v2), (3, .int v3), (4, .int (0 : Int32)), (5, .int (0 : Int32))] [.int vs0, .ref (g.2.2.2 + 73)] fd_X0 (fd_mx hm h) 0 0 := by
  intro v2 v3 vs0 h hf
  unfold fX9_readsParts_L42 at hf
  obtain ⟨h1, eh1, hf⟩ := fd_lt_e hf
  refine vm_putI (pc := 42) dX9_readsParts_42 fl_X9_105 ft_X9_2 (by decide) (by decide) rfl rfl eh1 ?_
  refine fr_aload_n (pc := 45) dX9_readsParts_45 0 rfl rfl ?_
  refine fr_iload_n (pc := 46) dX9_readsParts_46 1 rfl rfl ?_
  refine fr_iconst (pc := 47) (v := (2 : Int32)) dX9_readsParts_47 (by decide) ?_
  refine fr_icmp_ne (pc := 48) 55 dX9_readsParts_48 (by decide) (fun c2 => ?_) (fun c2 => ?_)
  · have hf := fd_f c2 hf
    refine fr_aload_n (pc := 55) dX9_readsParts_55 0 rfl rfl ?_
    refine vm_getI (pc := 56) dX9_readsParts_56 fl_X9_108 (by decide) (by decide) rfl rfl ?_
    refine fr_loc (lv' := [(0, .ref (g.2.2.2 + 73)), (1, .int a1), (2, .int v2), (3, .int v3), (4, .int (0 : Int32)), (5, .int (0 : Int32))]) [0, 1, 2, 3, 4, 5] rfl ?_
    exact sX9_readsParts_L59  _ _ _ _ hf
  · have hf := fd_t c2 hf
    refine fr_iconst (pc := 51) (v := (0 : Int32)) dX9_readsParts_51 (by decide) ?_
    refine fr_goto (pc := 52) 59 dX9_readsParts_52 (by decide) ?_
    refine fr_loc (lv' := [(0, .ref (g.2.2.2 + 73)), (1, .int a1), (2, .int v2), (3, .int v3), (4, .int (0 : Int32)), (5, .int (0 : Int32))]) [0, 1, 2, 3, 4, 5] rfl ?_
    exact sX9_readsParts_L59  _ _ _ _ hf
def fX9_readsParts_L22 (a1 : Int32) (v2 : Int32) (vs0 : Int32) (h : fd_H) : Option (Int32 × fd_H) :=
if a1 = 0 then (
fX9_readsParts_L42 a1 v2 vs0 (0 : Int32) h)
else (
fX9_readsParts_L42 a1 v2 vs0 (h.1 73 2) h)
set_option maxRecDepth 100000 in
set_option maxHeartbeats 4000000 in
theorem sX9_readsParts_L22 {g : fd_G} {hm : fd_H} {a1 : Int32} {r : Int32 × fd_H} : ∀ (v2 : Int32) (vs0 : Int32) (h : fd_H), fX9_readsParts_L22 a1 v2 vs0 h = some r → fd_A g mX9_readsParts fd_E (fd_rm 3 0 0) (fd_Q g (some (.int r.1)) fd_X0 (fd_mx hm r.2) 0 0) 22 [(0, .ref (g.2.2.2 + 73)), (1, .int a1), (2, .int v2)] [.int vs0] fd_X0 (fd_mx hm h) 0 0 := by
  intro v2 vs0 h hf
  unfold fX9_readsParts_L22 at hf
  refine fr_istore_n (pc := 22) (lv' := [(3, .int vs0), (0, .ref (g.2.2.2 + 73)), (1, .int a1), (2, .int v2)]) dX9_readsParts_22 rfl (by decide) rfl ?_
  refine fr_iconst (pc := 23) (v := (0 : Int32)) dX9_readsParts_23 (by decide) ?_
  refine fr_istore (pc := 24) (lv' := [(4, .int (0 : Int32)), (3, .int vs0), (0, .ref (g.2.2.2 + 73)), (1, .int a1), (2, .int v2)]) dX9_readsParts_24 (by decide) rfl ?_
  refine fr_iconst (pc := 26) (v := (0 : Int32)) dX9_readsParts_26 (by decide) ?_
  refine fr_istore (pc := 27) (lv' := [(5, .int (0 : Int32)), (4, .int (0 : Int32)), (3, .int vs0), (0, .ref (g.2.2.2 + 73)), (1, .int a1), (2, .int v2)]) dX9_readsParts_27 (by decide) rfl ?_
  refine fr_aload_n (pc := 29) dX9_readsParts_29 3 rfl rfl ?_
  refine fr_iload_n (pc := 30) dX9_readsParts_30 4 rfl rfl ?_
  refine fr_if_ne (pc := 31) 38 dX9_readsParts_31 (by decide) (fun c1 => ?_) (fun c1 => ?_)
  · have hf := fd_f c1 hf
    refine fr_aload_n (pc := 38) dX9_readsParts_38 3 rfl rfl ?_
    refine vm_getI (pc := 39) dX9_readsParts_39 fl_X9_105 (by decide) (by decide) rfl rfl ?_
    refine fr_loc (lv' := [(0, .ref (g.2.2.2 + 73)), (1, .int a1), (2, .int v2), (3, .int vs0), (4, .int (0 : Int32)), (5, .int (0 : Int32))]) [3, 4, 5, 2, 1, 0] rfl ?_
    exact sX9_readsParts_L42  _ _ _ _ hf
  · have hf := fd_t c1 hf
    refine fr_iconst (pc := 34) (v := (0 : Int32)) dX9_readsParts_34 (by decide) ?_
    refine fr_goto (pc := 35) 42 dX9_readsParts_35 (by decide) ?_
    refine fr_loc (lv' := [(0, .ref (g.2.2.2 + 73)), (1, .int a1), (2, .int v2), (3, .int vs0), (4, .int (0 : Int32)), (5, .int (0 : Int32))]) [3, 4, 5, 2, 1, 0] rfl ?_
    exact sX9_readsParts_L42  _ _ _ _ hf
def fX9_readsParts_L10 (a1 : Int32) (vs0 : Int32) (h : fd_H) : Option (Int32 × fd_H) :=
if a1 = 0 then (
fX9_readsParts_L22 a1 vs0 (8 : Int32) h)
else (
fX9_readsParts_L22 a1 vs0 (9 : Int32) h)
set_option maxRecDepth 100000 in
set_option maxHeartbeats 4000000 in
theorem sX9_readsParts_L10 {g : fd_G} {hm : fd_H} {a1 : Int32} {r : Int32 × fd_H} : ∀ (vs0 : Int32) (h : fd_H), fX9_readsParts_L10 a1 vs0 h = some r → fd_A g mX9_readsParts fd_E (fd_rm 3 0 0) (fd_Q g (some (.int r.1)) fd_X0 (fd_mx hm r.2) 0 0) 10 [(0, .ref (g.2.2.2 + 73)), (1, .int a1)] [.int vs0] fd_X0 (fd_mx hm h) 0 0 := by
  intro vs0 h hf
  unfold fX9_readsParts_L10 at hf
  refine fr_istore_n (pc := 10) (lv' := [(2, .int vs0), (0, .ref (g.2.2.2 + 73)), (1, .int a1)]) dX9_readsParts_10 rfl (by decide) rfl ?_
  refine fr_iload_n (pc := 11) dX9_readsParts_11 2 rfl rfl ?_
  refine fr_if_ne (pc := 12) 20 dX9_readsParts_12 (by decide) (fun c1 => ?_) (fun c1 => ?_)
  · have hf := fd_f c1 hf
    refine fr_bipush (pc := 20) (v := (9 : Int32)) dX9_readsParts_20 (by decide) ?_
    refine fr_loc (lv' := [(0, .ref (g.2.2.2 + 73)), (1, .int a1), (2, .int vs0)]) [1, 2, 0] rfl ?_
    exact sX9_readsParts_L22  _ _ _ hf
  · have hf := fd_t c1 hf
    refine fr_bipush (pc := 15) (v := (8 : Int32)) dX9_readsParts_15 (by decide) ?_
    refine fr_goto (pc := 17) 22 dX9_readsParts_17 (by decide) ?_
    refine fr_loc (lv' := [(0, .ref (g.2.2.2 + 73)), (1, .int a1), (2, .int vs0)]) [1, 2, 0] rfl ?_
    exact sX9_readsParts_L22  _ _ _ hf
def fX9_readsParts (a1 : Int32) (h : fd_H) : Option (Int32 × fd_H) :=
if a1 = 0 then (
fX9_readsParts_L10 a1 (2 : Int32) h)
else (
fX9_readsParts_L10 a1 (7 : Int32) h)
set_option maxRecDepth 100000 in
set_option maxHeartbeats 4000000 in
theorem sX9_readsParts {g : fd_G} {hm : fd_H} {a1 : Int32} {r : Int32 × fd_H} {h : fd_H} (hf : fX9_readsParts a1 h = some r) : fd_S g mX9_readsParts 3 [.ref (g.2.2.2 + 73), .int a1] fd_X0 (fd_mx hm h) (some (.int r.1)) fd_X0 (fd_mx hm r.2) 0 0 := by
  refine fd_S.of (by decide +kernel) (Nat.le_of_ble_eq_true rfl) ?_
  unfold fX9_readsParts at hf
  refine fr_loc (lv' := [(0, .ref (g.2.2.2 + 73)), (1, .int a1)]) [0, 1] rfl ?_
  refine fr_iload_n (pc := 0) dX9_readsParts_0 1 rfl rfl ?_
  refine fr_if_ne (pc := 1) 8 dX9_readsParts_1 (by decide) (fun c1 => ?_) (fun c1 => ?_)
  · have hf := fd_f c1 hf
    refine fr_bipush (pc := 8) (v := (7 : Int32)) dX9_readsParts_8 (by decide) ?_
    refine fr_loc (lv' := [(0, .ref (g.2.2.2 + 73)), (1, .int a1)]) [0, 1] rfl ?_
    exact sX9_readsParts_L10  _ _ hf
  · have hf := fd_t c1 hf
    refine fr_iconst (pc := 4) (v := (2 : Int32)) dX9_readsParts_4 (by decide) ?_
    refine fr_goto (pc := 5) 10 dX9_readsParts_5 (by decide) ?_
    refine fr_loc (lv' := [(0, .ref (g.2.2.2 + 73)), (1, .int a1)]) [0, 1] rfl ?_
    exact sX9_readsParts_L10  _ _ hf
theorem dX9_cloud_0 : decode cX9_cloud 0 = .ok (.aload_n 0, 1) := by decide +kernel
theorem dX9_cloud_1 : decode cX9_cloud 1 = .ok (.iconst 0, 1) := by decide +kernel
theorem dX9_cloud_2 : decode cX9_cloud 2 = .ok (.iload_n 1, 1) := by decide +kernel
theorem dX9_cloud_3 : decode cX9_cloud 3 = .ok (.iconst 0, 1) := by decide +kernel
theorem dX9_cloud_4 : decode cX9_cloud 4 = .ok (.invokevirtual 152, 3) := by decide +kernel
theorem dX9_cloud_7 : decode cX9_cloud 7 = .ok (.ireturn, 1) := by decide +kernel
def fX9_cloud (a1 : Int32) (h : fd_H) : Option (Int32 × fd_H) :=
(fX9_more (0 : Int32) a1 (0 : Int32) h).bind fun q2 =>
some (q2.1, q2.2)
set_option maxRecDepth 100000 in
set_option maxHeartbeats 4000000 in
theorem sX9_cloud {g : fd_G} {hm : fd_H} {a1 : Int32} {r : Int32 × fd_H} {h : fd_H} (hf : fX9_cloud a1 h = some r) : fd_S g mX9_cloud 3 [.ref (g.2.2.2 + 73), .int a1] fd_X0 (fd_mx hm h) (some (.int r.1)) fd_X0 (fd_mx hm r.2) 0 0 := by
  refine fd_S.of (by decide +kernel) (Nat.le_of_ble_eq_true rfl) ?_
  unfold fX9_cloud at hf
  refine fr_loc (lv' := [(0, .ref (g.2.2.2 + 73)), (1, .int a1)]) [0, 1] rfl ?_
  refine fr_aload_n (pc := 0) dX9_cloud_0 0 rfl rfl ?_
  refine fr_iconst (pc := 1) (v := (0 : Int32)) dX9_cloud_1 (by decide) ?_
  refine fr_iload_n (pc := 2) dX9_cloud_2 1 rfl rfl ?_
  refine fr_iconst (pc := 3) (v := (0 : Int32)) dX9_cloud_3 (by decide) ?_
  obtain ⟨q2, hc1, hf⟩ := fd_bi hf
  refine fr_callVi (pc := 4) (av := [.int (0 : Int32), .int a1, .int (0 : Int32)]) dX9_cloud_4 yy_X9_more kw_352 (by decide) rfl rfl rfl rfl (Nat.le_of_ble_eq_true rfl) ⟨Nat.le_of_ble_eq_true rfl, Nat.le_of_ble_eq_true rfl, Nat.zero_le _, Nat.zero_le _⟩ (sX9_more hc1) ?_
  exact vm_iretW (x := q2.1) (pc := 7) dX9_cloud_7 rfl hf
theorem dX9_smoke_0 : decode cX9_smoke 0 = .ok (.aload_n 0, 1) := by decide +kernel
theorem dX9_smoke_1 : decode cX9_smoke 1 = .ok (.iconst 1, 1) := by decide +kernel
theorem dX9_smoke_2 : decode cX9_smoke 2 = .ok (.iload_n 1, 1) := by decide +kernel
theorem dX9_smoke_3 : decode cX9_smoke 3 = .ok (.iload_n 2, 1) := by decide +kernel
theorem dX9_smoke_4 : decode cX9_smoke 4 = .ok (.invokevirtual 152, 3) := by decide +kernel
theorem dX9_smoke_7 : decode cX9_smoke 7 = .ok (.ireturn, 1) := by decide +kernel
def fX9_smoke (a1 : Int32) (a2 : Int32) (h : fd_H) : Option (Int32 × fd_H) :=
(fX9_more (1 : Int32) a1 a2 h).bind fun q2 =>
some (q2.1, q2.2)
set_option maxRecDepth 100000 in
set_option maxHeartbeats 4000000 in
theorem sX9_smoke {g : fd_G} {hm : fd_H} {a1 : Int32} {a2 : Int32} {r : Int32 × fd_H} {h : fd_H} (hf : fX9_smoke a1 a2 h = some r) : fd_S g mX9_smoke 3 [.ref (g.2.2.2 + 73), .int a1, .int a2] fd_X0 (fd_mx hm h) (some (.int r.1)) fd_X0 (fd_mx hm r.2) 0 0 := by
  refine fd_S.of (by decide +kernel) (Nat.le_of_ble_eq_true rfl) ?_
  unfold fX9_smoke at hf
  refine fr_loc (lv' := [(0, .ref (g.2.2.2 + 73)), (1, .int a1), (2, .int a2)]) [0, 1, 2] rfl ?_
  refine fr_aload_n (pc := 0) dX9_smoke_0 0 rfl rfl ?_
  refine fr_iconst (pc := 1) (v := (1 : Int32)) dX9_smoke_1 (by decide) ?_
  refine fr_iload_n (pc := 2) dX9_smoke_2 1 rfl rfl ?_
  refine fr_iload_n (pc := 3) dX9_smoke_3 2 rfl rfl ?_
  obtain ⟨q2, hc1, hf⟩ := fd_bi hf
  refine fr_callVi (pc := 4) (av := [.int (1 : Int32), .int a1, .int a2]) dX9_smoke_4 yy_X9_more kw_352 (by decide) rfl rfl rfl rfl (Nat.le_of_ble_eq_true rfl) ⟨Nat.le_of_ble_eq_true rfl, Nat.le_of_ble_eq_true rfl, Nat.zero_le _, Nat.zero_le _⟩ (sX9_more hc1) ?_
  exact vm_iretW (x := q2.1) (pc := 7) dX9_smoke_7 rfl hf
theorem dX9_ice_0 : decode cX9_ice 0 = .ok (.aload_n 0, 1) := by decide +kernel
theorem dX9_ice_1 : decode cX9_ice 1 = .ok (.iconst 2, 1) := by decide +kernel
theorem dX9_ice_2 : decode cX9_ice 2 = .ok (.iload_n 1, 1) := by decide +kernel
theorem dX9_ice_3 : decode cX9_ice 3 = .ok (.iload_n 2, 1) := by decide +kernel
theorem dX9_ice_4 : decode cX9_ice 4 = .ok (.invokevirtual 152, 3) := by decide +kernel
theorem dX9_ice_7 : decode cX9_ice 7 = .ok (.ireturn, 1) := by decide +kernel
def fX9_ice (a1 : Int32) (a2 : Int32) (h : fd_H) : Option (Int32 × fd_H) :=
(fX9_more (2 : Int32) a1 a2 h).bind fun q2 =>
some (q2.1, q2.2)
set_option maxRecDepth 100000 in
set_option maxHeartbeats 4000000 in
theorem sX9_ice {g : fd_G} {hm : fd_H} {a1 : Int32} {a2 : Int32} {r : Int32 × fd_H} {h : fd_H} (hf : fX9_ice a1 a2 h = some r) : fd_S g mX9_ice 3 [.ref (g.2.2.2 + 73), .int a1, .int a2] fd_X0 (fd_mx hm h) (some (.int r.1)) fd_X0 (fd_mx hm r.2) 0 0 := by
  refine fd_S.of (by decide +kernel) (Nat.le_of_ble_eq_true rfl) ?_
  unfold fX9_ice at hf
  refine fr_loc (lv' := [(0, .ref (g.2.2.2 + 73)), (1, .int a1), (2, .int a2)]) [0, 1, 2] rfl ?_
  refine fr_aload_n (pc := 0) dX9_ice_0 0 rfl rfl ?_
  refine fr_iconst (pc := 1) (v := (2 : Int32)) dX9_ice_1 (by decide) ?_
  refine fr_iload_n (pc := 2) dX9_ice_2 1 rfl rfl ?_
  refine fr_iload_n (pc := 3) dX9_ice_3 2 rfl rfl ?_
  obtain ⟨q2, hc1, hf⟩ := fd_bi hf
  refine fr_callVi (pc := 4) (av := [.int (2 : Int32), .int a1, .int a2]) dX9_ice_4 yy_X9_more kw_352 (by decide) rfl rfl rfl rfl (Nat.le_of_ble_eq_true rfl) ⟨Nat.le_of_ble_eq_true rfl, Nat.le_of_ble_eq_true rfl, Nat.zero_le _, Nat.zero_le _⟩ (sX9_more hc1) ?_
  exact vm_iretW (x := q2.1) (pc := 7) dX9_ice_7 rfl hf
theorem dX9_carries_0 : decode cX9_carries 0 = .ok (.aload_n 0, 1) := by decide +kernel
theorem dX9_carries_1 : decode cX9_carries 1 = .ok (.invokevirtual 171, 3) := by decide +kernel
theorem dX9_carries_4 : decode cX9_carries 4 = .ok (.iconst 0, 1) := by decide +kernel
theorem dX9_carries_5 : decode cX9_carries 5 = .ok (.istore 6, 2) := by decide +kernel
theorem dX9_carries_7 : decode cX9_carries 7 = .ok (.iload 6, 2) := by decide +kernel
theorem dX9_carries_9 : decode cX9_carries 9 = .ok (.aload_n 0, 1) := by decide +kernel
theorem dX9_carries_10 : decode cX9_carries 10 = .ok (.getfield 105, 3) := by decide +kernel
theorem dX9_carries_13 : decode cX9_carries 13 = .ok (.if_icmp .ge 81, 3) := by decide +kernel
theorem dX9_carries_16 : decode cX9_carries 16 = .ok (.iload 6, 2) := by decide +kernel
theorem dX9_carries_18 : decode cX9_carries 18 = .ok (.iload_n 3, 1) := by decide +kernel
theorem dX9_carries_19 : decode cX9_carries 19 = .ok (.if_icmp .eq 17, 3) := by decide +kernel
theorem dX9_carries_22 : decode cX9_carries 22 = .ok (.iload 6, 2) := by decide +kernel
theorem dX9_carries_24 : decode cX9_carries 24 = .ok (.iload 4, 2) := by decide +kernel
theorem dX9_carries_26 : decode cX9_carries 26 = .ok (.if_icmp .eq 10, 3) := by decide +kernel
theorem dX9_carries_29 : decode cX9_carries 29 = .ok (.iload 6, 2) := by decide +kernel
theorem dX9_carries_31 : decode cX9_carries 31 = .ok (.iload 5, 2) := by decide +kernel
theorem dX9_carries_33 : decode cX9_carries 33 = .ok (.if_icmp .ne 7, 3) := by decide +kernel
theorem dX9_carries_36 : decode cX9_carries 36 = .ok (.iconst 1, 1) := by decide +kernel
theorem dX9_carries_37 : decode cX9_carries 37 = .ok (.goto 4, 3) := by decide +kernel
theorem dX9_carries_40 : decode cX9_carries 40 = .ok (.iconst 0, 1) := by decide +kernel
theorem dX9_carries_41 : decode cX9_carries 41 = .ok (.istore 7, 2) := by decide +kernel
theorem dX9_carries_43 : decode cX9_carries 43 = .ok (.aload_n 0, 1) := by decide +kernel
theorem dX9_carries_44 : decode cX9_carries 44 = .ok (.getfield 53, 3) := by decide +kernel
theorem dX9_carries_47 : decode cX9_carries 47 = .ok (.iload 6, 2) := by decide +kernel
theorem dX9_carries_49 : decode cX9_carries 49 = .ok (.iload 7, 2) := by decide +kernel
theorem dX9_carries_51 : decode cX9_carries 51 = .ok (.ifCond .eq 29, 3) := by decide +kernel
theorem dX9_carries_54 : decode cX9_carries 54 = .ok (.aload_n 0, 1) := by decide +kernel
theorem dX9_carries_55 : decode cX9_carries 55 = .ok (.getfield 53, 3) := by decide +kernel
theorem dX9_carries_58 : decode cX9_carries 58 = .ok (.iload 6, 2) := by decide +kernel
theorem dX9_carries_60 : decode cX9_carries 60 = .ok (.iaload, 1) := by decide +kernel
theorem dX9_carries_61 : decode cX9_carries 61 = .ok (.iconst (-1), 1) := by decide +kernel
theorem dX9_carries_62 : decode cX9_carries 62 = .ok (.if_icmp .eq 14, 3) := by decide +kernel
theorem dX9_carries_65 : decode cX9_carries 65 = .ok (.aload_n 0, 1) := by decide +kernel
theorem dX9_carries_66 : decode cX9_carries 66 = .ok (.getfield 53, 3) := by decide +kernel
theorem dX9_carries_69 : decode cX9_carries 69 = .ok (.iload 6, 2) := by decide +kernel
theorem dX9_carries_71 : decode cX9_carries 71 = .ok (.iaload, 1) := by decide +kernel
theorem dX9_carries_72 : decode cX9_carries 72 = .ok (.iload_n 2, 1) := by decide +kernel
theorem dX9_carries_73 : decode cX9_carries 73 = .ok (.if_icmp .le 7, 3) := by decide +kernel
theorem dX9_carries_76 : decode cX9_carries 76 = .ok (.iload_n 2, 1) := by decide +kernel
theorem dX9_carries_77 : decode cX9_carries 77 = .ok (.goto 10, 3) := by decide +kernel
theorem dX9_carries_80 : decode cX9_carries 80 = .ok (.aload_n 0, 1) := by decide +kernel
theorem dX9_carries_81 : decode cX9_carries 81 = .ok (.getfield 53, 3) := by decide +kernel
theorem dX9_carries_84 : decode cX9_carries 84 = .ok (.iload 6, 2) := by decide +kernel
theorem dX9_carries_86 : decode cX9_carries 86 = .ok (.iaload, 1) := by decide +kernel
theorem dX9_carries_87 : decode cX9_carries 87 = .ok (.iastore, 1) := by decide +kernel
theorem dX9_carries_88 : decode cX9_carries 88 = .ok (.iinc 6 1, 3) := by decide +kernel
theorem dX9_carries_91 : decode cX9_carries 91 = .ok (.goto (-84), 3) := by decide +kernel
theorem dX9_carries_94 : decode cX9_carries 94 = .ok (.aload_n 0, 1) := by decide +kernel
theorem dX9_carries_95 : decode cX9_carries 95 = .ok (.getfield 56, 3) := by decide +kernel
theorem dX9_carries_98 : decode cX9_carries 98 = .ok (.iconst 0, 1) := by decide +kernel
theorem dX9_carries_99 : decode cX9_carries 99 = .ok (.iload_n 3, 1) := by decide +kernel
theorem dX9_carries_100 : decode cX9_carries 100 = .ok (.iastore, 1) := by decide +kernel
theorem dX9_carries_101 : decode cX9_carries 101 = .ok (.aload_n 0, 1) := by decide +kernel
theorem dX9_carries_102 : decode cX9_carries 102 = .ok (.getfield 56, 3) := by decide +kernel
theorem dX9_carries_105 : decode cX9_carries 105 = .ok (.iconst 1, 1) := by decide +kernel
theorem dX9_carries_106 : decode cX9_carries 106 = .ok (.iload 4, 2) := by decide +kernel
theorem dX9_carries_108 : decode cX9_carries 108 = .ok (.iastore, 1) := by decide +kernel
theorem dX9_carries_109 : decode cX9_carries 109 = .ok (.aload_n 0, 1) := by decide +kernel
theorem dX9_carries_110 : decode cX9_carries 110 = .ok (.getfield 56, 3) := by decide +kernel
theorem dX9_carries_113 : decode cX9_carries 113 = .ok (.iconst 2, 1) := by decide +kernel
theorem dX9_carries_114 : decode cX9_carries 114 = .ok (.iload 5, 2) := by decide +kernel
theorem dX9_carries_116 : decode cX9_carries 116 = .ok (.iastore, 1) := by decide +kernel
theorem dX9_carries_117 : decode cX9_carries 117 = .ok (.aload_n 0, 1) := by decide +kernel
theorem dX9_carries_118 : decode cX9_carries 118 = .ok (.iload_n 1, 1) := by decide +kernel
theorem dX9_carries_119 : decode cX9_carries 119 = .ok (.iload_n 2, 1) := by decide +kernel
theorem dX9_carries_120 : decode cX9_carries 120 = .ok (.iconst 0, 1) := by decide +kernel
theorem dX9_carries_121 : decode cX9_carries 121 = .ok (.invokevirtual 207, 3) := by decide +kernel
theorem dX9_carries_124 : decode cX9_carries 124 = .ok (.ifCond .ne 7, 3) := by decide +kernel
theorem dX9_carries_127 : decode cX9_carries 127 = .ok (.iconst 1, 1) := by decide +kernel
theorem dX9_carries_128 : decode cX9_carries 128 = .ok (.goto 4, 3) := by decide +kernel
theorem dX9_carries_131 : decode cX9_carries 131 = .ok (.iconst 0, 1) := by decide +kernel
theorem dX9_carries_132 : decode cX9_carries 132 = .ok (.ireturn, 1) := by decide +kernel
def fX9_carries_L87 (a1 : Int32) (a2 : Int32) (a3 : Int32) (a4 : Int32) (a5 : Int32) (K7 : Int32 → fd_H → Option (Bool × fd_H)) (v6 : Int32) (vs0 : Int32) (vs1 : Int32) (h : fd_H) : Option (Bool × fd_H) :=
fd_g (fd_in vs1 8) (
fd_lt (fd_ui h 88 vs1.toNatClampNeg vs0) fun h2 =>
K7 (v6 + (1 : Int32)) h2)
set_option maxRecDepth 100000 in
set_option maxHeartbeats 4000000 in
theorem sX9_carries_L87 {g : fd_G} {hm : fd_H} {a1 : Int32} {a2 : Int32} {a3 : Int32} {a4 : Int32} {a5 : Int32} {r : Bool × fd_H} {K7 : Int32 → fd_H → Option (Bool × fd_H)} (hK7 : ∀ (v6 : Int32) (h : fd_H), K7 v6 h = some r → fd_A g mX9_carries fd_E (fd_rm 3 0 0) (fd_Q g (some (.int (fd_b r.1))) fd_X0 (fd_mx hm r.2) 0 0) 7 [(0, .ref (g.2.2.2 + 73)), (1, .int a1), (2, .int a2), (3, .int a3), (4, .int a4), (5, .int a5), (6, .int v6)] [] fd_X0 (fd_mx hm h) 0 0) : ∀ (v6 : Int32) (vs0 : Int32) (vs1 : Int32) (h : fd_H), fX9_carries_L87 a1 a2 a3 a4 a5 K7 v6 vs0 vs1 h = some r → fd_A g mX9_carries fd_E (fd_rm 3 0 0) (fd_Q g (some (.int (fd_b r.1))) fd_X0 (fd_mx hm r.2) 0 0) 87 [(0, .ref (g.2.2.2 + 73)), (1, .int a1), (2, .int a2), (3, .int a3), (4, .int a4), (5, .int a5), (6, .int v6)] [.int vs0, .int vs1, .ref (g.2.2.2 + 88)] fd_X0 (fd_mx hm h) 0 0 := by
  intro v6 vs0 vs1 h hf
  unfold fX9_carries_L87 at hf
  obtain ⟨g1, hf⟩ := fd_g_e hf
  obtain ⟨h2, eh2, hf⟩ := fd_lt_e hf
  refine vm_iast (pc := 87) dX9_carries_87 (by decide) (by decide) rfl g1 eh2 ?_
  refine fr_iinc (pc := 88) (v := (v6 + (1 : Int32))) (lv' := [(6, .int (v6 + (1 : Int32))), (0, .ref (g.2.2.2 + 73)), (1, .int a1), (2, .int a2), (3, .int a3), (4, .int a4), (5, .int a5)]) dX9_carries_88 6 rfl rfl (by decide) rfl ?_
  refine fr_goto (pc := 91) 7 dX9_carries_91 (by decide) ?_
  refine fr_loc (lv' := [(0, .ref (g.2.2.2 + 73)), (1, .int a1), (2, .int a2), (3, .int a3), (4, .int a4), (5, .int a5), (6, .int (v6 + (1 : Int32)))]) [1, 2, 3, 4, 5, 6, 0] rfl ?_
  exact hK7 _ _ hf
def fX9_carries_L80 (a1 : Int32) (a2 : Int32) (a3 : Int32) (a4 : Int32) (a5 : Int32) (K7 : Int32 → fd_H → Option (Bool × fd_H)) (v6 : Int32) (vs0 : Int32) (h : fd_H) : Option (Bool × fd_H) :=
fd_g (fd_in v6 8) (
fX9_carries_L87 a1 a2 a3 a4 a5 K7 v6 (h.1 88 v6.toNatClampNeg) vs0 h)
set_option maxRecDepth 100000 in
set_option maxHeartbeats 4000000 in
theorem sX9_carries_L80 {g : fd_G} {hm : fd_H} {a1 : Int32} {a2 : Int32} {a3 : Int32} {a4 : Int32} {a5 : Int32} {r : Bool × fd_H} {K7 : Int32 → fd_H → Option (Bool × fd_H)} (hK7 : ∀ (v6 : Int32) (h : fd_H), K7 v6 h = some r → fd_A g mX9_carries fd_E (fd_rm 3 0 0) (fd_Q g (some (.int (fd_b r.1))) fd_X0 (fd_mx hm r.2) 0 0) 7 [(0, .ref (g.2.2.2 + 73)), (1, .int a1), (2, .int a2), (3, .int a3), (4, .int a4), (5, .int a5), (6, .int v6)] [] fd_X0 (fd_mx hm h) 0 0) : ∀ (v6 : Int32) (vs0 : Int32) (h : fd_H), fX9_carries_L80 a1 a2 a3 a4 a5 K7 v6 vs0 h = some r → fd_A g mX9_carries fd_E (fd_rm 3 0 0) (fd_Q g (some (.int (fd_b r.1))) fd_X0 (fd_mx hm r.2) 0 0) 80 [(0, .ref (g.2.2.2 + 73)), (1, .int a1), (2, .int a2), (3, .int a3), (4, .int a4), (5, .int a5), (6, .int v6)] [.int vs0, .ref (g.2.2.2 + 88)] fd_X0 (fd_mx hm h) 0 0 := by
  intro v6 vs0 h hf
  unfold fX9_carries_L80 at hf
  refine fr_aload_n (pc := 80) dX9_carries_80 0 rfl rfl ?_
  refine fr_getR (pc := 81) dX9_carries_81 fl_X9_53 (by decide) rfl rfl ?_
  refine fr_iload (pc := 84) dX9_carries_84 6 rfl ?_
  obtain ⟨g1, hf⟩ := fd_g_e hf
  refine vm_iald (pc := 86) dX9_carries_86 (by decide) (by decide) rfl g1 ?_
  refine fr_loc (lv' := [(0, .ref (g.2.2.2 + 73)), (1, .int a1), (2, .int a2), (3, .int a3), (4, .int a4), (5, .int a5), (6, .int v6)]) [0, 1, 2, 3, 4, 5, 6] rfl ?_
  exact sX9_carries_L87 hK7  _ _ _ _ hf
def fX9_carries_L41 (a1 : Int32) (a2 : Int32) (a3 : Int32) (a4 : Int32) (a5 : Int32) (K7 : Int32 → fd_H → Option (Bool × fd_H)) (v6 : Int32) (vs0 : Bool) (h : fd_H) : Option (Bool × fd_H) :=
if vs0 = true then (
fd_g (fd_in v6 8) (
if (h.1 88 v6.toNatClampNeg) = (-1 : Int32) then (
fX9_carries_L87 a1 a2 a3 a4 a5 K7 v6 a2 v6 h)
else (
fd_g (fd_in v6 8) (
if (h.1 88 v6.toNatClampNeg) ≤ a2 then (
fX9_carries_L80 a1 a2 a3 a4 a5 K7 v6 v6 h)
else (
fX9_carries_L87 a1 a2 a3 a4 a5 K7 v6 a2 v6 h)))))
else (
fX9_carries_L80 a1 a2 a3 a4 a5 K7 v6 v6 h)
set_option maxRecDepth 100000 in
set_option maxHeartbeats 4000000 in
theorem sX9_carries_L41 {g : fd_G} {hm : fd_H} {a1 : Int32} {a2 : Int32} {a3 : Int32} {a4 : Int32} {a5 : Int32} {r : Bool × fd_H} {K7 : Int32 → fd_H → Option (Bool × fd_H)} (hK7 : ∀ (v6 : Int32) (h : fd_H), K7 v6 h = some r → fd_A g mX9_carries fd_E (fd_rm 3 0 0) (fd_Q g (some (.int (fd_b r.1))) fd_X0 (fd_mx hm r.2) 0 0) 7 [(0, .ref (g.2.2.2 + 73)), (1, .int a1), (2, .int a2), (3, .int a3), (4, .int a4), (5, .int a5), (6, .int v6)] [] fd_X0 (fd_mx hm h) 0 0) : ∀ (v6 : Int32) (vs0 : Bool) (h : fd_H), fX9_carries_L41 a1 a2 a3 a4 a5 K7 v6 vs0 h = some r → fd_A g mX9_carries fd_E (fd_rm 3 0 0) (fd_Q g (some (.int (fd_b r.1))) fd_X0 (fd_mx hm r.2) 0 0) 41 [(0, .ref (g.2.2.2 + 73)), (1, .int a1), (2, .int a2), (3, .int a3), (4, .int a4), (5, .int a5), (6, .int v6)] [.int (fd_b vs0)] fd_X0 (fd_mx hm h) 0 0 := by
  intro v6 vs0 h hf
  unfold fX9_carries_L41 at hf
  refine fr_istore (pc := 41) (lv' := [(7, .int (fd_b vs0)), (0, .ref (g.2.2.2 + 73)), (1, .int a1), (2, .int a2), (3, .int a3), (4, .int a4), (5, .int a5), (6, .int v6)]) dX9_carries_41 (by decide) rfl ?_
  refine fr_aload_n (pc := 43) dX9_carries_43 1 rfl rfl ?_
  refine fr_getR (pc := 44) dX9_carries_44 fl_X9_53 (by decide) rfl rfl ?_
  refine fr_iload (pc := 47) dX9_carries_47 7 rfl ?_
  refine fr_iload (pc := 49) dX9_carries_49 0 rfl ?_
  refine fr_bz (pc := 51) 80 dX9_carries_51 (by decide) (fun c1 => ?_) (fun c1 => ?_)
  · have hf := fd_f c1 hf
    refine fr_loc (lv' := [(0, .ref (g.2.2.2 + 73)), (1, .int a1), (2, .int a2), (3, .int a3), (4, .int a4), (5, .int a5), (6, .int v6)]) [1, 2, 3, 4, 5, 6, 7] rfl ?_
    exact sX9_carries_L80 hK7  _ _ _ hf
  · have hf := fd_t c1 hf
    refine fr_aload_n (pc := 54) dX9_carries_54 1 rfl rfl ?_
    refine fr_getR (pc := 55) dX9_carries_55 fl_X9_53 (by decide) rfl rfl ?_
    refine fr_iload (pc := 58) dX9_carries_58 7 rfl ?_
    obtain ⟨g2, hf⟩ := fd_g_e hf
    refine vm_iald (pc := 60) dX9_carries_60 (by decide) (by decide) rfl g2 ?_
    refine fr_iconst (pc := 61) (v := (-1 : Int32)) dX9_carries_61 (by decide) ?_
    refine fr_icmp_eq (pc := 62) 76 dX9_carries_62 (by decide) (fun c3 => ?_) (fun c3 => ?_)
    · have hf := fd_t c3 hf
      refine fr_iload_n (pc := 76) dX9_carries_76 3 rfl rfl ?_
      refine fr_goto (pc := 77) 87 dX9_carries_77 (by decide) ?_
      refine fr_loc (lv' := [(0, .ref (g.2.2.2 + 73)), (1, .int a1), (2, .int a2), (3, .int a3), (4, .int a4), (5, .int a5), (6, .int v6)]) [1, 2, 3, 4, 5, 6, 7] rfl ?_
      exact sX9_carries_L87 hK7  _ _ _ _ hf
    · have hf := fd_f c3 hf
      refine fr_aload_n (pc := 65) dX9_carries_65 1 rfl rfl ?_
      refine fr_getR (pc := 66) dX9_carries_66 fl_X9_53 (by decide) rfl rfl ?_
      refine fr_iload (pc := 69) dX9_carries_69 7 rfl ?_
      obtain ⟨g4, hf⟩ := fd_g_e hf
      refine vm_iald (pc := 71) dX9_carries_71 (by decide) (by decide) rfl g4 ?_
      refine fr_iload_n (pc := 72) dX9_carries_72 3 rfl rfl ?_
      refine fr_icmp_le (pc := 73) 80 dX9_carries_73 (by decide) (fun c5 => ?_) (fun c5 => ?_)
      · have hf := fd_t c5 hf
        refine fr_loc (lv' := [(0, .ref (g.2.2.2 + 73)), (1, .int a1), (2, .int a2), (3, .int a3), (4, .int a4), (5, .int a5), (6, .int v6)]) [1, 2, 3, 4, 5, 6, 7] rfl ?_
        exact sX9_carries_L80 hK7  _ _ _ hf
      · have hf := fd_f c5 hf
        refine fr_iload_n (pc := 76) dX9_carries_76 3 rfl rfl ?_
        refine fr_goto (pc := 77) 87 dX9_carries_77 (by decide) ?_
        refine fr_loc (lv' := [(0, .ref (g.2.2.2 + 73)), (1, .int a1), (2, .int a2), (3, .int a3), (4, .int a4), (5, .int a5), (6, .int v6)]) [1, 2, 3, 4, 5, 6, 7] rfl ?_
        exact sX9_carries_L87 hK7  _ _ _ _ hf
def fX9_carries_L7 (a1 : Int32) (a2 : Int32) (a3 : Int32) (a4 : Int32) (a5 : Int32) : Nat → Int32 → fd_H → Option (Bool × fd_H)
  | 0 => fun _ _ => none
  | n + 1 => fun v6 h =>
if (h.1 73 2) ≤ v6 then (
fd_g (fd_in (0 : Int32) 3) (
fd_lt (fd_ui h 89 (0 : Int32).toNatClampNeg a3) fun h3 =>
fd_g (fd_in (1 : Int32) 3) (
fd_lt (fd_ui h3 89 (1 : Int32).toNatClampNeg a4) fun h5 =>
fd_g (fd_in (2 : Int32) 3) (
fd_lt (fd_ui h5 89 (2 : Int32).toNatClampNeg a5) fun h7 =>
(fX9_owesNow a1 a2 (0 : Int32) h7).bind fun r9 =>
if r9 = 0 then (
some (true, h7))
else (
some (false, h7))))))
else (
if v6 = a3 then (
fX9_carries_L41 a1 a2 a3 a4 a5 (fX9_carries_L7 a1 a2 a3 a4 a5 n) v6 true h)
else (
if v6 = a4 then (
fX9_carries_L41 a1 a2 a3 a4 a5 (fX9_carries_L7 a1 a2 a3 a4 a5 n) v6 true h)
else (
if v6 = a5 then (
fX9_carries_L41 a1 a2 a3 a4 a5 (fX9_carries_L7 a1 a2 a3 a4 a5 n) v6 true h)
else (
fX9_carries_L41 a1 a2 a3 a4 a5 (fX9_carries_L7 a1 a2 a3 a4 a5 n) v6 false h))))
set_option maxRecDepth 100000 in
set_option maxHeartbeats 4000000 in
theorem sX9_carries_L7 {g : fd_G} {hm : fd_H} {a1 : Int32} {a2 : Int32} {a3 : Int32} {a4 : Int32} {a5 : Int32} {r : Bool × fd_H} : ∀ (n : Nat) (v6 : Int32) (h : fd_H), fX9_carries_L7 a1 a2 a3 a4 a5 n v6 h = some r → fd_A g mX9_carries fd_E (fd_rm 3 0 0) (fd_Q g (some (.int (fd_b r.1))) fd_X0 (fd_mx hm r.2) 0 0) 7 [(0, .ref (g.2.2.2 + 73)), (1, .int a1), (2, .int a2), (3, .int a3), (4, .int a4), (5, .int a5), (6, .int v6)] [] fd_X0 (fd_mx hm h) 0 0 := by
  intro n
  induction n with
  | zero =>
    intro _ _ hf
    cases hf
  | succ n ih =>
    intro v6 h hf
    rw [fX9_carries_L7] at hf
    refine fr_iload (pc := 7) dX9_carries_7 6 rfl ?_
    refine fr_aload_n (pc := 9) dX9_carries_9 0 rfl rfl ?_
    refine vm_getI (pc := 10) dX9_carries_10 fl_X9_105 (by decide) (by decide) rfl rfl ?_
    refine fr_icmp_ge (pc := 13) 94 dX9_carries_13 (by decide) (fun c1 => ?_) (fun c1 => ?_)
    · have hf := fd_t c1 hf
      refine fr_aload_n (pc := 94) dX9_carries_94 0 rfl rfl ?_
      refine fr_getR (pc := 95) dX9_carries_95 fl_X9_56 (by decide) rfl rfl ?_
      refine fr_iconst (pc := 98) (v := (0 : Int32)) dX9_carries_98 (by decide) ?_
      refine fr_iload_n (pc := 99) dX9_carries_99 3 rfl rfl ?_
      obtain ⟨g2, hf⟩ := fd_g_e hf
      obtain ⟨h3, eh3, hf⟩ := fd_lt_e hf
      refine vm_iast (pc := 100) dX9_carries_100 (by decide) (by decide) rfl g2 eh3 ?_
      refine fr_aload_n (pc := 101) dX9_carries_101 0 rfl rfl ?_
      refine fr_getR (pc := 102) dX9_carries_102 fl_X9_56 (by decide) rfl rfl ?_
      refine fr_iconst (pc := 105) (v := (1 : Int32)) dX9_carries_105 (by decide) ?_
      refine fr_iload (pc := 106) dX9_carries_106 4 rfl ?_
      obtain ⟨g4, hf⟩ := fd_g_e hf
      obtain ⟨h5, eh5, hf⟩ := fd_lt_e hf
      refine vm_iast (pc := 108) dX9_carries_108 (by decide) (by decide) rfl g4 eh5 ?_
      refine fr_aload_n (pc := 109) dX9_carries_109 0 rfl rfl ?_
      refine fr_getR (pc := 110) dX9_carries_110 fl_X9_56 (by decide) rfl rfl ?_
      refine fr_iconst (pc := 113) (v := (2 : Int32)) dX9_carries_113 (by decide) ?_
      refine fr_iload (pc := 114) dX9_carries_114 5 rfl ?_
      obtain ⟨g6, hf⟩ := fd_g_e hf
      obtain ⟨h7, eh7, hf⟩ := fd_lt_e hf
      refine vm_iast (pc := 116) dX9_carries_116 (by decide) (by decide) rfl g6 eh7 ?_
      refine fr_aload_n (pc := 117) dX9_carries_117 0 rfl rfl ?_
      refine fr_iload_n (pc := 118) dX9_carries_118 1 rfl rfl ?_
      refine fr_iload_n (pc := 119) dX9_carries_119 2 rfl rfl ?_
      refine fr_iconst (pc := 120) (v := (0 : Int32)) dX9_carries_120 (by decide) ?_
      obtain ⟨r9, hc8, hf⟩ := fd_bi hf
      refine fr_callVi (pc := 121) (av := [.int a1, .int a2, .int (0 : Int32)]) dX9_carries_121 yy_X9_owesNow kw_361 (by decide) rfl rfl rfl rfl (Nat.le_of_ble_eq_true rfl) ⟨Nat.le_of_ble_eq_true rfl, Nat.le_of_ble_eq_true rfl, Nat.zero_le _, Nat.zero_le _⟩ (sX9_owesNow hc8) ?_
      refine fr_if_ne (pc := 124) 131 dX9_carries_124 (by decide) (fun c10 => ?_) (fun c10 => ?_)
      · have hf := fd_f c10 hf
        refine fr_iconst (pc := 131) (v := (0 : Int32)) dX9_carries_131 (by decide) ?_
        exact vm_zretW (x := false) (pc := 132) dX9_carries_132 rfl hf
      · have hf := fd_t c10 hf
        refine fr_iconst (pc := 127) (v := (1 : Int32)) dX9_carries_127 (by decide) ?_
        refine fr_goto (pc := 128) 132 dX9_carries_128 (by decide) ?_
        exact vm_zretW (x := true) (pc := 132) dX9_carries_132 rfl hf
    · have hf := fd_f c1 hf
      refine fr_iload (pc := 16) dX9_carries_16 6 rfl ?_
      refine fr_iload_n (pc := 18) dX9_carries_18 3 rfl rfl ?_
      refine fr_icmp_eq (pc := 19) 36 dX9_carries_19 (by decide) (fun c11 => ?_) (fun c11 => ?_)
      · have hf := fd_t c11 hf
        refine fr_iconst (pc := 36) (v := (1 : Int32)) dX9_carries_36 (by decide) ?_
        refine fr_goto (pc := 37) 41 dX9_carries_37 (by decide) ?_
        refine fr_loc (lv' := [(0, .ref (g.2.2.2 + 73)), (1, .int a1), (2, .int a2), (3, .int a3), (4, .int a4), (5, .int a5), (6, .int v6)]) [0, 1, 2, 3, 4, 5, 6] rfl ?_
        exact sX9_carries_L41 ih  _ _ _ hf
      · have hf := fd_f c11 hf
        refine fr_iload (pc := 22) dX9_carries_22 6 rfl ?_
        refine fr_iload (pc := 24) dX9_carries_24 4 rfl ?_
        refine fr_icmp_eq (pc := 26) 36 dX9_carries_26 (by decide) (fun c12 => ?_) (fun c12 => ?_)
        · have hf := fd_t c12 hf
          refine fr_iconst (pc := 36) (v := (1 : Int32)) dX9_carries_36 (by decide) ?_
          refine fr_goto (pc := 37) 41 dX9_carries_37 (by decide) ?_
          refine fr_loc (lv' := [(0, .ref (g.2.2.2 + 73)), (1, .int a1), (2, .int a2), (3, .int a3), (4, .int a4), (5, .int a5), (6, .int v6)]) [0, 1, 2, 3, 4, 5, 6] rfl ?_
          exact sX9_carries_L41 ih  _ _ _ hf
        · have hf := fd_f c12 hf
          refine fr_iload (pc := 29) dX9_carries_29 6 rfl ?_
          refine fr_iload (pc := 31) dX9_carries_31 5 rfl ?_
          refine fr_icmp_ne (pc := 33) 40 dX9_carries_33 (by decide) (fun c13 => ?_) (fun c13 => ?_)
          · have hf := fd_f c13 hf
            refine fr_iconst (pc := 40) (v := (0 : Int32)) dX9_carries_40 (by decide) ?_
            refine fr_loc (lv' := [(0, .ref (g.2.2.2 + 73)), (1, .int a1), (2, .int a2), (3, .int a3), (4, .int a4), (5, .int a5), (6, .int v6)]) [0, 1, 2, 3, 4, 5, 6] rfl ?_
            exact sX9_carries_L41 ih  _ _ _ hf
          · have hf := fd_t c13 hf
            refine fr_iconst (pc := 36) (v := (1 : Int32)) dX9_carries_36 (by decide) ?_
            refine fr_goto (pc := 37) 41 dX9_carries_37 (by decide) ?_
            refine fr_loc (lv' := [(0, .ref (g.2.2.2 + 73)), (1, .int a1), (2, .int a2), (3, .int a3), (4, .int a4), (5, .int a5), (6, .int v6)]) [0, 1, 2, 3, 4, 5, 6] rfl ?_
            exact sX9_carries_L41 ih  _ _ _ hf
def fX9_carries (a1 : Int32) (a2 : Int32) (a3 : Int32) (a4 : Int32) (a5 : Int32) (h : fd_H) : Option (Bool × fd_H) :=
(fX9_lays h).bind fun h2 =>
fX9_carries_L7 a1 a2 a3 a4 a5 fd_fu (0 : Int32) h2
set_option maxRecDepth 100000 in
set_option maxHeartbeats 4000000 in
theorem sX9_carries {g : fd_G} {hm : fd_H} {a1 : Int32} {a2 : Int32} {a3 : Int32} {a4 : Int32} {a5 : Int32} {r : Bool × fd_H} {h : fd_H} (hf : fX9_carries a1 a2 a3 a4 a5 h = some r) : fd_S g mX9_carries 3 [.ref (g.2.2.2 + 73), .int a1, .int a2, .int a3, .int a4, .int a5] fd_X0 (fd_mx hm h) (some (.int (fd_b r.1))) fd_X0 (fd_mx hm r.2) 0 0 := by
  refine fd_S.of (by decide +kernel) (Nat.le_of_ble_eq_true rfl) ?_
  unfold fX9_carries at hf
  refine fr_loc (lv' := [(0, .ref (g.2.2.2 + 73)), (1, .int a1), (2, .int a2), (3, .int a3), (4, .int a4), (5, .int a5)]) [0, 1, 2, 3, 4, 5] rfl ?_
  refine fr_aload_n (pc := 0) dX9_carries_0 0 rfl rfl ?_
  obtain ⟨h2, hc1, hf⟩ := fd_bi hf
  refine fr_callVv (pc := 1) (av := []) dX9_carries_1 yy_X9_lays kw_356 (by decide) rfl rfl rfl rfl (Nat.le_of_ble_eq_true rfl) ⟨Nat.le_of_ble_eq_true rfl, Nat.le_of_ble_eq_true rfl, Nat.zero_le _, Nat.zero_le _⟩ (sX9_lays hc1) ?_
  refine fr_iconst (pc := 4) (v := (0 : Int32)) dX9_carries_4 (by decide) ?_
  refine fr_istore (pc := 5) (lv' := [(6, .int (0 : Int32)), (0, .ref (g.2.2.2 + 73)), (1, .int a1), (2, .int a2), (3, .int a3), (4, .int a4), (5, .int a5)]) dX9_carries_5 (by decide) rfl ?_
  refine fr_loc (lv' := [(0, .ref (g.2.2.2 + 73)), (1, .int a1), (2, .int a2), (3, .int a3), (4, .int a4), (5, .int a5), (6, .int (0 : Int32))]) [1, 2, 3, 4, 5, 6, 0] rfl ?_
  exact sX9_carries_L7 _  _ _ hf
theorem dX9_read_0 : decode cX9_read 0 = .ok (.iload_n 1, 1) := by decide +kernel
theorem dX9_read_1 : decode cX9_read 1 = .ok (.invokestatic 238, 3) := by decide +kernel
theorem dX9_read_4 : decode cX9_read 4 = .ok (.ifCond .ne 6, 3) := by decide +kernel
theorem dX9_read_7 : decode cX9_read 7 = .ok (.bipush (-2), 2) := by decide +kernel
theorem dX9_read_9 : decode cX9_read 9 = .ok (.ireturn, 1) := by decide +kernel
theorem dX9_read_10 : decode cX9_read 10 = .ok (.aload_n 0, 1) := by decide +kernel
theorem dX9_read_11 : decode cX9_read 11 = .ok (.getfield 68, 3) := by decide +kernel
theorem dX9_read_14 : decode cX9_read 14 = .ok (.iload_n 1, 1) := by decide +kernel
theorem dX9_read_15 : decode cX9_read 15 = .ok (.baload, 1) := by decide +kernel
theorem dX9_read_16 : decode cX9_read 16 = .ok (.ifCond .ne 9, 3) := by decide +kernel
theorem dX9_read_19 : decode cX9_read 19 = .ok (.aload_n 0, 1) := by decide +kernel
theorem dX9_read_20 : decode cX9_read 20 = .ok (.iconst 1, 1) := by decide +kernel
theorem dX9_read_21 : decode cX9_read 21 = .ok (.invokevirtual 241, 3) := by decide +kernel
theorem dX9_read_24 : decode cX9_read 24 = .ok (.ireturn, 1) := by decide +kernel
theorem dX9_read_25 : decode cX9_read 25 = .ok (.iconst 0, 1) := by decide +kernel
theorem dX9_read_26 : decode cX9_read 26 = .ok (.istore_n 2, 1) := by decide +kernel
theorem dX9_read_27 : decode cX9_read 27 = .ok (.iconst 3, 1) := by decide +kernel
theorem dX9_read_28 : decode cX9_read 28 = .ok (.iload_n 2, 1) := by decide +kernel
theorem dX9_read_29 : decode cX9_read 29 = .ok (.imul, 1) := by decide +kernel
theorem dX9_read_30 : decode cX9_read 30 = .ok (.iconst 2, 1) := by decide +kernel
theorem dX9_read_31 : decode cX9_read 31 = .ok (.iadd, 1) := by decide +kernel
theorem dX9_read_32 : decode cX9_read 32 = .ok (.aload_n 0, 1) := by decide +kernel
theorem dX9_read_33 : decode cX9_read 33 = .ok (.getfield 74, 3) := by decide +kernel
theorem dX9_read_36 : decode cX9_read 36 = .ok (.iload_n 1, 1) := by decide +kernel
theorem dX9_read_37 : decode cX9_read 37 = .ok (.iaload, 1) := by decide +kernel
theorem dX9_read_38 : decode cX9_read 38 = .ok (.if_icmp .ge 59, 3) := by decide +kernel
theorem dX9_read_41 : decode cX9_read 41 = .ok (.aload_n 0, 1) := by decide +kernel
theorem dX9_read_42 : decode cX9_read 42 = .ok (.aload_n 0, 1) := by decide +kernel
theorem dX9_read_43 : decode cX9_read 43 = .ok (.getfield 77, 3) := by decide +kernel
theorem dX9_read_46 : decode cX9_read 46 = .ok (.bipush 48, 2) := by decide +kernel
theorem dX9_read_48 : decode cX9_read 48 = .ok (.iload_n 1, 1) := by decide +kernel
theorem dX9_read_49 : decode cX9_read 49 = .ok (.imul, 1) := by decide +kernel
theorem dX9_read_50 : decode cX9_read 50 = .ok (.iconst 3, 1) := by decide +kernel
theorem dX9_read_51 : decode cX9_read 51 = .ok (.iload_n 2, 1) := by decide +kernel
theorem dX9_read_52 : decode cX9_read 52 = .ok (.imul, 1) := by decide +kernel
theorem dX9_read_53 : decode cX9_read 53 = .ok (.iadd, 1) := by decide +kernel
theorem dX9_read_54 : decode cX9_read 54 = .ok (.iaload, 1) := by decide +kernel
theorem dX9_read_55 : decode cX9_read 55 = .ok (.aload_n 0, 1) := by decide +kernel
theorem dX9_read_56 : decode cX9_read 56 = .ok (.getfield 77, 3) := by decide +kernel
theorem dX9_read_59 : decode cX9_read 59 = .ok (.bipush 48, 2) := by decide +kernel
theorem dX9_read_61 : decode cX9_read 61 = .ok (.iload_n 1, 1) := by decide +kernel
theorem dX9_read_62 : decode cX9_read 62 = .ok (.imul, 1) := by decide +kernel
theorem dX9_read_63 : decode cX9_read 63 = .ok (.iconst 3, 1) := by decide +kernel
theorem dX9_read_64 : decode cX9_read 64 = .ok (.iload_n 2, 1) := by decide +kernel
theorem dX9_read_65 : decode cX9_read 65 = .ok (.imul, 1) := by decide +kernel
theorem dX9_read_66 : decode cX9_read 66 = .ok (.iadd, 1) := by decide +kernel
theorem dX9_read_67 : decode cX9_read 67 = .ok (.iconst 1, 1) := by decide +kernel
theorem dX9_read_68 : decode cX9_read 68 = .ok (.iadd, 1) := by decide +kernel
theorem dX9_read_69 : decode cX9_read 69 = .ok (.iaload, 1) := by decide +kernel
theorem dX9_read_70 : decode cX9_read 70 = .ok (.aload_n 0, 1) := by decide +kernel
theorem dX9_read_71 : decode cX9_read 71 = .ok (.getfield 77, 3) := by decide +kernel
theorem dX9_read_74 : decode cX9_read 74 = .ok (.bipush 48, 2) := by decide +kernel
theorem dX9_read_76 : decode cX9_read 76 = .ok (.iload_n 1, 1) := by decide +kernel
theorem dX9_read_77 : decode cX9_read 77 = .ok (.imul, 1) := by decide +kernel
theorem dX9_read_78 : decode cX9_read 78 = .ok (.iconst 3, 1) := by decide +kernel
theorem dX9_read_79 : decode cX9_read 79 = .ok (.iload_n 2, 1) := by decide +kernel
theorem dX9_read_80 : decode cX9_read 80 = .ok (.imul, 1) := by decide +kernel
theorem dX9_read_81 : decode cX9_read 81 = .ok (.iadd, 1) := by decide +kernel
theorem dX9_read_82 : decode cX9_read 82 = .ok (.iconst 2, 1) := by decide +kernel
theorem dX9_read_83 : decode cX9_read 83 = .ok (.iadd, 1) := by decide +kernel
theorem dX9_read_84 : decode cX9_read 84 = .ok (.iaload, 1) := by decide +kernel
theorem dX9_read_85 : decode cX9_read 85 = .ok (.invokevirtual 244, 3) := by decide +kernel
theorem dX9_read_88 : decode cX9_read 88 = .ok (.ifCond .le 9, 3) := by decide +kernel
theorem dX9_read_91 : decode cX9_read 91 = .ok (.iinc 2 1, 3) := by decide +kernel
theorem dX9_read_94 : decode cX9_read 94 = .ok (.goto (-67), 3) := by decide +kernel
theorem dX9_read_97 : decode cX9_read 97 = .ok (.iload_n 2, 1) := by decide +kernel
theorem dX9_read_98 : decode cX9_read 98 = .ok (.ireturn, 1) := by decide +kernel
def fX9_read_L27 (a1 : Int32) : Nat → Int32 → fd_H → Option (Int32 × fd_H)
  | 0 => fun _ _ => none
  | n + 1 => fun v2 h =>
fd_g (fd_in a1 4) (
if (h.1 95 a1.toNatClampNeg) ≤ (((3 : Int32) * v2) + (2 : Int32)) then (
some (v2, h))
else (
fd_g (fd_in (((48 : Int32) * a1) + ((3 : Int32) * v2)) 192) (
fd_g (fd_in ((((48 : Int32) * a1) + ((3 : Int32) * v2)) + (1 : Int32)) 192) (
fd_g (fd_in ((((48 : Int32) * a1) + ((3 : Int32) * v2)) + (2 : Int32)) 192) (
(fX9_seen (h.1 96 (((48 : Int32) * a1) + ((3 : Int32) * v2)).toNatClampNeg) (h.1 96 ((((48 : Int32) * a1) + ((3 : Int32) * v2)) + (1 : Int32)).toNatClampNeg) (h.1 96 ((((48 : Int32) * a1) + ((3 : Int32) * v2)) + (2 : Int32)).toNatClampNeg) h).bind fun q7 =>
if q7.1 ≤ 0 then (
some (v2, q7.2))
else (
fX9_read_L27 a1 n (v2 + (1 : Int32)) q7.2))))))
set_option maxRecDepth 100000 in
set_option maxHeartbeats 4000000 in
theorem sX9_read_L27 {g : fd_G} {hm : fd_H} {a1 : Int32} {r : Int32 × fd_H} : ∀ (n : Nat) (v2 : Int32) (h : fd_H), fX9_read_L27 a1 n v2 h = some r → fd_A g mX9_read fd_E (fd_rm 3 0 0) (fd_Q g (some (.int r.1)) fd_X0 (fd_mx hm r.2) 0 0) 27 [(0, .ref (g.2.2.2 + 73)), (1, .int a1), (2, .int v2)] [] fd_X0 (fd_mx hm h) 0 0 := by
  intro n
  induction n with
  | zero =>
    intro _ _ hf
    cases hf
  | succ n ih =>
    intro v2 h hf
    rw [fX9_read_L27] at hf
    refine fr_iconst (pc := 27) (v := (3 : Int32)) dX9_read_27 (by decide) ?_
    refine fr_iload_n (pc := 28) dX9_read_28 2 rfl rfl ?_
    refine fr_imul (pc := 29) dX9_read_29 ?_
    refine fr_iconst (pc := 30) (v := (2 : Int32)) dX9_read_30 (by decide) ?_
    refine fr_iadd (pc := 31) dX9_read_31 ?_
    refine fr_aload_n (pc := 32) dX9_read_32 0 rfl rfl ?_
    refine fr_getR (pc := 33) dX9_read_33 fl_X9_74 (by decide) rfl rfl ?_
    refine fr_iload_n (pc := 36) dX9_read_36 1 rfl rfl ?_
    obtain ⟨g1, hf⟩ := fd_g_e hf
    refine vm_iald (pc := 37) dX9_read_37 (by decide) (by decide) rfl g1 ?_
    refine fr_icmp_ge (pc := 38) 97 dX9_read_38 (by decide) (fun c2 => ?_) (fun c2 => ?_)
    · have hf := fd_t c2 hf
      refine fr_iload_n (pc := 97) dX9_read_97 2 rfl rfl ?_
      exact vm_iretW (x := v2) (pc := 98) dX9_read_98 rfl hf
    · have hf := fd_f c2 hf
      refine fr_aload_n (pc := 41) dX9_read_41 0 rfl rfl ?_
      refine fr_aload_n (pc := 42) dX9_read_42 0 rfl rfl ?_
      refine fr_getR (pc := 43) dX9_read_43 fl_X9_77 (by decide) rfl rfl ?_
      refine fr_bipush (pc := 46) (v := (48 : Int32)) dX9_read_46 (by decide) ?_
      refine fr_iload_n (pc := 48) dX9_read_48 1 rfl rfl ?_
      refine fr_imul (pc := 49) dX9_read_49 ?_
      refine fr_iconst (pc := 50) (v := (3 : Int32)) dX9_read_50 (by decide) ?_
      refine fr_iload_n (pc := 51) dX9_read_51 2 rfl rfl ?_
      refine fr_imul (pc := 52) dX9_read_52 ?_
      refine fr_iadd (pc := 53) dX9_read_53 ?_
      obtain ⟨g3, hf⟩ := fd_g_e hf
      refine vm_iald (pc := 54) dX9_read_54 (by decide) (by decide) rfl g3 ?_
      refine fr_aload_n (pc := 55) dX9_read_55 0 rfl rfl ?_
      refine fr_getR (pc := 56) dX9_read_56 fl_X9_77 (by decide) rfl rfl ?_
      refine fr_bipush (pc := 59) (v := (48 : Int32)) dX9_read_59 (by decide) ?_
      refine fr_iload_n (pc := 61) dX9_read_61 1 rfl rfl ?_
      refine fr_imul (pc := 62) dX9_read_62 ?_
      refine fr_iconst (pc := 63) (v := (3 : Int32)) dX9_read_63 (by decide) ?_
      refine fr_iload_n (pc := 64) dX9_read_64 2 rfl rfl ?_
      refine fr_imul (pc := 65) dX9_read_65 ?_
      refine fr_iadd (pc := 66) dX9_read_66 ?_
      refine fr_iconst (pc := 67) (v := (1 : Int32)) dX9_read_67 (by decide) ?_
      refine fr_iadd (pc := 68) dX9_read_68 ?_
      obtain ⟨g4, hf⟩ := fd_g_e hf
      refine vm_iald (pc := 69) dX9_read_69 (by decide) (by decide) rfl g4 ?_
      refine fr_aload_n (pc := 70) dX9_read_70 0 rfl rfl ?_
      refine fr_getR (pc := 71) dX9_read_71 fl_X9_77 (by decide) rfl rfl ?_
      refine fr_bipush (pc := 74) (v := (48 : Int32)) dX9_read_74 (by decide) ?_
      refine fr_iload_n (pc := 76) dX9_read_76 1 rfl rfl ?_
      refine fr_imul (pc := 77) dX9_read_77 ?_
      refine fr_iconst (pc := 78) (v := (3 : Int32)) dX9_read_78 (by decide) ?_
      refine fr_iload_n (pc := 79) dX9_read_79 2 rfl rfl ?_
      refine fr_imul (pc := 80) dX9_read_80 ?_
      refine fr_iadd (pc := 81) dX9_read_81 ?_
      refine fr_iconst (pc := 82) (v := (2 : Int32)) dX9_read_82 (by decide) ?_
      refine fr_iadd (pc := 83) dX9_read_83 ?_
      obtain ⟨g5, hf⟩ := fd_g_e hf
      refine vm_iald (pc := 84) dX9_read_84 (by decide) (by decide) rfl g5 ?_
      obtain ⟨q7, hc6, hf⟩ := fd_bi hf
      refine fr_callVi (pc := 85) (av := [.int (h.1 96 (((48 : Int32) * a1) + ((3 : Int32) * v2)).toNatClampNeg), .int (h.1 96 ((((48 : Int32) * a1) + ((3 : Int32) * v2)) + (1 : Int32)).toNatClampNeg), .int (h.1 96 ((((48 : Int32) * a1) + ((3 : Int32) * v2)) + (2 : Int32)).toNatClampNeg)]) dX9_read_85 yy_X9_seen kw_365 (by decide) rfl rfl rfl rfl (Nat.le_of_ble_eq_true rfl) ⟨Nat.le_of_ble_eq_true rfl, Nat.le_of_ble_eq_true rfl, Nat.zero_le _, Nat.zero_le _⟩ (sX9_seen hc6) ?_
      refine fr_if_le (pc := 88) 97 dX9_read_88 (by decide) (fun c8 => ?_) (fun c8 => ?_)
      · have hf := fd_t c8 hf
        refine fr_iload_n (pc := 97) dX9_read_97 2 rfl rfl ?_
        exact vm_iretW (x := v2) (pc := 98) dX9_read_98 rfl hf
      · have hf := fd_f c8 hf
        refine fr_iinc (pc := 91) (v := (v2 + (1 : Int32))) (lv' := [(2, .int (v2 + (1 : Int32))), (0, .ref (g.2.2.2 + 73)), (1, .int a1)]) dX9_read_91 2 rfl rfl (by decide) rfl ?_
        refine fr_goto (pc := 94) 27 dX9_read_94 (by decide) ?_
        refine fr_loc (lv' := [(0, .ref (g.2.2.2 + 73)), (1, .int a1), (2, .int (v2 + (1 : Int32)))]) [1, 2, 0] rfl ?_
        exact ih _ _ hf
def fX9_read (a1 : Int32) (h : fd_H) : Option (Int32 × fd_H) :=
(fX9_isSheet a1).bind fun r2 =>
if r2 = true then (
fd_g (fd_in a1 4) (
if (h.1 93 a1.toNatClampNeg) = 0 then (
(fX9_meets (1 : Int32) h).bind fun q7 =>
some (q7.1, q7.2))
else (
fX9_read_L27 a1 fd_fu (0 : Int32) h)))
else (
some ((-2 : Int32), h))
set_option maxRecDepth 100000 in
set_option maxHeartbeats 4000000 in
theorem sX9_read {g : fd_G} {hm : fd_H} {a1 : Int32} {r : Int32 × fd_H} {h : fd_H} (hf : fX9_read a1 h = some r) : fd_S g mX9_read 3 [.ref (g.2.2.2 + 73), .int a1] fd_X0 (fd_mx hm h) (some (.int r.1)) fd_X0 (fd_mx hm r.2) 0 0 := by
  refine fd_S.of (by decide +kernel) (Nat.le_of_ble_eq_true rfl) ?_
  unfold fX9_read at hf
  refine fr_loc (lv' := [(0, .ref (g.2.2.2 + 73)), (1, .int a1)]) [0, 1] rfl ?_
  refine fr_iload_n (pc := 0) dX9_read_0 1 rfl rfl ?_
  obtain ⟨r2, hc1, hf⟩ := fd_bi hf
  refine fr_callSz (pc := 1) (av := [.int a1]) dX9_read_1 yy_X9_isSheet kw_265 rfl rfl (Nat.le_of_ble_eq_true rfl) ⟨Nat.le_of_ble_eq_true rfl, Nat.le_of_ble_eq_true rfl, Nat.zero_le _, Nat.zero_le _⟩ (sX9_isSheet hc1) ?_
  refine fr_bn (pc := 4) 10 dX9_read_4 (by decide) (fun c3 => ?_) (fun c3 => ?_)
  · have hf := fd_t c3 hf
    refine fr_aload_n (pc := 10) dX9_read_10 0 rfl rfl ?_
    refine fr_getR (pc := 11) dX9_read_11 fl_X9_68 (by decide) rfl rfl ?_
    refine fr_iload_n (pc := 14) dX9_read_14 1 rfl rfl ?_
    obtain ⟨g4, hf⟩ := fd_g_e hf
    refine vm_zald (pc := 15) dX9_read_15 (by decide) (by decide) rfl g4 ?_
    refine fr_if_ne (pc := 16) 25 dX9_read_16 (by decide) (fun c5 => ?_) (fun c5 => ?_)
    · have hf := fd_f c5 hf
      refine fr_iconst (pc := 25) (v := (0 : Int32)) dX9_read_25 (by decide) ?_
      refine fr_istore_n (pc := 26) (lv' := [(2, .int (0 : Int32)), (0, .ref (g.2.2.2 + 73)), (1, .int a1)]) dX9_read_26 rfl (by decide) rfl ?_
      refine fr_loc (lv' := [(0, .ref (g.2.2.2 + 73)), (1, .int a1), (2, .int (0 : Int32))]) [1, 2, 0] rfl ?_
      exact sX9_read_L27 _  _ _ hf
    · have hf := fd_t c5 hf
      refine fr_aload_n (pc := 19) dX9_read_19 0 rfl rfl ?_
      refine fr_iconst (pc := 20) (v := (1 : Int32)) dX9_read_20 (by decide) ?_
      obtain ⟨q7, hc6, hf⟩ := fd_bi hf
      refine fr_callVi (pc := 21) (av := [.int (1 : Int32)]) dX9_read_21 yy_X9_meets kw_269 (by decide) rfl rfl rfl rfl (Nat.le_of_ble_eq_true rfl) ⟨Nat.le_of_ble_eq_true rfl, Nat.le_of_ble_eq_true rfl, Nat.zero_le _, Nat.zero_le _⟩ (sX9_meets hc6) ?_
      exact vm_iretW (x := q7.1) (pc := 24) dX9_read_24 rfl hf
  · have hf := fd_f c3 hf
    refine fr_bipush (pc := 7) (v := (-2 : Int32)) dX9_read_7 (by decide) ?_
    exact vm_iretW (x := (-2 : Int32)) (pc := 9) dX9_read_9 rfl hf
theorem dX9_isSeen_0 : decode cX9_isSeen 0 = .ok (.aload_n 0, 1) := by decide +kernel
theorem dX9_isSeen_1 : decode cX9_isSeen 1 = .ok (.invokevirtual 171, 3) := by decide +kernel
theorem dX9_isSeen_4 : decode cX9_isSeen 4 = .ok (.iconst 1, 1) := by decide +kernel
theorem dX9_isSeen_5 : decode cX9_isSeen 5 = .ok (.istore_n 1, 1) := by decide +kernel
theorem dX9_isSeen_6 : decode cX9_isSeen 6 = .ok (.iconst 0, 1) := by decide +kernel
theorem dX9_isSeen_7 : decode cX9_isSeen 7 = .ok (.istore_n 2, 1) := by decide +kernel
theorem dX9_isSeen_8 : decode cX9_isSeen 8 = .ok (.iload_n 2, 1) := by decide +kernel
theorem dX9_isSeen_9 : decode cX9_isSeen 9 = .ok (.aload_n 0, 1) := by decide +kernel
theorem dX9_isSeen_10 : decode cX9_isSeen 10 = .ok (.getfield 235, 3) := by decide +kernel
theorem dX9_isSeen_13 : decode cX9_isSeen 13 = .ok (.if_icmp .ge 53, 3) := by decide +kernel
theorem dX9_isSeen_16 : decode cX9_isSeen 16 = .ok (.iload_n 1, 1) := by decide +kernel
theorem dX9_isSeen_17 : decode cX9_isSeen 17 = .ok (.ifCond .eq 41, 3) := by decide +kernel
theorem dX9_isSeen_20 : decode cX9_isSeen 20 = .ok (.aload_n 0, 1) := by decide +kernel
theorem dX9_isSeen_21 : decode cX9_isSeen 21 = .ok (.aload_n 0, 1) := by decide +kernel
theorem dX9_isSeen_22 : decode cX9_isSeen 22 = .ok (.getfield 62, 3) := by decide +kernel
theorem dX9_isSeen_25 : decode cX9_isSeen 25 = .ok (.iload_n 2, 1) := by decide +kernel
theorem dX9_isSeen_26 : decode cX9_isSeen 26 = .ok (.iaload, 1) := by decide +kernel
theorem dX9_isSeen_27 : decode cX9_isSeen 27 = .ok (.aload_n 0, 1) := by decide +kernel
theorem dX9_isSeen_28 : decode cX9_isSeen 28 = .ok (.getfield 59, 3) := by decide +kernel
theorem dX9_isSeen_31 : decode cX9_isSeen 31 = .ok (.iload_n 2, 1) := by decide +kernel
theorem dX9_isSeen_32 : decode cX9_isSeen 32 = .ok (.iaload, 1) := by decide +kernel
theorem dX9_isSeen_33 : decode cX9_isSeen 33 = .ok (.invokevirtual 186, 3) := by decide +kernel
theorem dX9_isSeen_36 : decode cX9_isSeen 36 = .ok (.aload_n 0, 1) := by decide +kernel
theorem dX9_isSeen_37 : decode cX9_isSeen 37 = .ok (.getfield 65, 3) := by decide +kernel
theorem dX9_isSeen_40 : decode cX9_isSeen 40 = .ok (.iload_n 2, 1) := by decide +kernel
theorem dX9_isSeen_41 : decode cX9_isSeen 41 = .ok (.iaload, 1) := by decide +kernel
theorem dX9_isSeen_42 : decode cX9_isSeen 42 = .ok (.iconst 1, 1) := by decide +kernel
theorem dX9_isSeen_43 : decode cX9_isSeen 43 = .ok (.if_icmp .ne 7, 3) := by decide +kernel
theorem dX9_isSeen_46 : decode cX9_isSeen 46 = .ok (.iconst 1, 1) := by decide +kernel
theorem dX9_isSeen_47 : decode cX9_isSeen 47 = .ok (.goto 4, 3) := by decide +kernel
theorem dX9_isSeen_50 : decode cX9_isSeen 50 = .ok (.iconst 0, 1) := by decide +kernel
theorem dX9_isSeen_51 : decode cX9_isSeen 51 = .ok (.if_icmp .ne 7, 3) := by decide +kernel
theorem dX9_isSeen_54 : decode cX9_isSeen 54 = .ok (.iconst 1, 1) := by decide +kernel
theorem dX9_isSeen_55 : decode cX9_isSeen 55 = .ok (.goto 4, 3) := by decide +kernel
theorem dX9_isSeen_58 : decode cX9_isSeen 58 = .ok (.iconst 0, 1) := by decide +kernel
theorem dX9_isSeen_59 : decode cX9_isSeen 59 = .ok (.istore_n 1, 1) := by decide +kernel
theorem dX9_isSeen_60 : decode cX9_isSeen 60 = .ok (.iinc 2 1, 3) := by decide +kernel
theorem dX9_isSeen_63 : decode cX9_isSeen 63 = .ok (.goto (-55), 3) := by decide +kernel
theorem dX9_isSeen_66 : decode cX9_isSeen 66 = .ok (.iload_n 1, 1) := by decide +kernel
theorem dX9_isSeen_67 : decode cX9_isSeen 67 = .ok (.ireturn, 1) := by decide +kernel
def fX9_isSeen_L59  (K8 : Bool → Int32 → fd_H → Option (Bool × fd_H)) (v2 : Int32) (vs0 : Bool) (h : fd_H) : Option (Bool × fd_H) :=
K8 vs0 (v2 + (1 : Int32)) h
set_option maxRecDepth 100000 in
set_option maxHeartbeats 4000000 in
theorem sX9_isSeen_L59 {g : fd_G} {hm : fd_H} {r : Bool × fd_H} {K8 : Bool → Int32 → fd_H → Option (Bool × fd_H)} (hK8 : ∀ (v1 : Bool) (v2 : Int32) (h : fd_H), K8 v1 v2 h = some r → fd_A g mX9_isSeen fd_E (fd_rm 3 0 0) (fd_Q g (some (.int (fd_b r.1))) fd_X0 (fd_mx hm r.2) 0 0) 8 [(0, .ref (g.2.2.2 + 73)), (1, .int (fd_b v1)), (2, .int v2)] [] fd_X0 (fd_mx hm h) 0 0) : ∀ (v2 : Int32) (vs0 : Bool) (h : fd_H), fX9_isSeen_L59  K8 v2 vs0 h = some r → fd_A g mX9_isSeen fd_E (fd_rm 3 0 0) (fd_Q g (some (.int (fd_b r.1))) fd_X0 (fd_mx hm r.2) 0 0) 59 [(0, .ref (g.2.2.2 + 73)), (2, .int v2)] [.int (fd_b vs0)] fd_X0 (fd_mx hm h) 0 0 := by
  intro v2 vs0 h hf
  unfold fX9_isSeen_L59 at hf
  refine fr_istore_n (pc := 59) (lv' := [(1, .int (fd_b vs0)), (0, .ref (g.2.2.2 + 73)), (2, .int v2)]) dX9_isSeen_59 rfl (by decide) rfl ?_
  refine fr_iinc (pc := 60) (v := (v2 + (1 : Int32))) (lv' := [(2, .int (v2 + (1 : Int32))), (1, .int (fd_b vs0)), (0, .ref (g.2.2.2 + 73))]) dX9_isSeen_60 2 rfl rfl (by decide) rfl ?_
  refine fr_goto (pc := 63) 8 dX9_isSeen_63 (by decide) ?_
  refine fr_loc (lv' := [(0, .ref (g.2.2.2 + 73)), (1, .int (fd_b vs0)), (2, .int (v2 + (1 : Int32)))]) [2, 1, 0] rfl ?_
  exact hK8 _ _ _ hf
def fX9_isSeen_L58  (K8 : Bool → Int32 → fd_H → Option (Bool × fd_H)) (v2 : Int32) (h : fd_H) : Option (Bool × fd_H) :=
fX9_isSeen_L59  K8 v2 false h
set_option maxRecDepth 100000 in
set_option maxHeartbeats 4000000 in
theorem sX9_isSeen_L58 {g : fd_G} {hm : fd_H} {r : Bool × fd_H} {K8 : Bool → Int32 → fd_H → Option (Bool × fd_H)} (hK8 : ∀ (v1 : Bool) (v2 : Int32) (h : fd_H), K8 v1 v2 h = some r → fd_A g mX9_isSeen fd_E (fd_rm 3 0 0) (fd_Q g (some (.int (fd_b r.1))) fd_X0 (fd_mx hm r.2) 0 0) 8 [(0, .ref (g.2.2.2 + 73)), (1, .int (fd_b v1)), (2, .int v2)] [] fd_X0 (fd_mx hm h) 0 0) : ∀ (v2 : Int32) (h : fd_H), fX9_isSeen_L58  K8 v2 h = some r → fd_A g mX9_isSeen fd_E (fd_rm 3 0 0) (fd_Q g (some (.int (fd_b r.1))) fd_X0 (fd_mx hm r.2) 0 0) 58 [(0, .ref (g.2.2.2 + 73)), (2, .int v2)] [] fd_X0 (fd_mx hm h) 0 0 := by
  intro v2 h hf
  unfold fX9_isSeen_L58 at hf
  refine fr_iconst (pc := 58) (v := (0 : Int32)) dX9_isSeen_58 (by decide) ?_
  refine fr_loc (lv' := [(0, .ref (g.2.2.2 + 73)), (2, .int v2)]) [0, 1] rfl ?_
  exact sX9_isSeen_L59 hK8  _ _ _ hf
def fX9_isSeen_L51  (K8 : Bool → Int32 → fd_H → Option (Bool × fd_H)) (v2 : Int32) (vs0 : Bool) (vs1 : Bool) (h : fd_H) : Option (Bool × fd_H) :=
if (fd_b vs1) = (fd_b vs0) then (
fX9_isSeen_L59  K8 v2 true h)
else (
fX9_isSeen_L58  K8 v2 h)
set_option maxRecDepth 100000 in
set_option maxHeartbeats 4000000 in
theorem sX9_isSeen_L51 {g : fd_G} {hm : fd_H} {r : Bool × fd_H} {K8 : Bool → Int32 → fd_H → Option (Bool × fd_H)} (hK8 : ∀ (v1 : Bool) (v2 : Int32) (h : fd_H), K8 v1 v2 h = some r → fd_A g mX9_isSeen fd_E (fd_rm 3 0 0) (fd_Q g (some (.int (fd_b r.1))) fd_X0 (fd_mx hm r.2) 0 0) 8 [(0, .ref (g.2.2.2 + 73)), (1, .int (fd_b v1)), (2, .int v2)] [] fd_X0 (fd_mx hm h) 0 0) : ∀ (v2 : Int32) (vs0 : Bool) (vs1 : Bool) (h : fd_H), fX9_isSeen_L51  K8 v2 vs0 vs1 h = some r → fd_A g mX9_isSeen fd_E (fd_rm 3 0 0) (fd_Q g (some (.int (fd_b r.1))) fd_X0 (fd_mx hm r.2) 0 0) 51 [(0, .ref (g.2.2.2 + 73)), (2, .int v2)] [.int (fd_b vs0), .int (fd_b vs1)] fd_X0 (fd_mx hm h) 0 0 := by
  intro v2 vs0 vs1 h hf
  unfold fX9_isSeen_L51 at hf
  refine fr_icmp_ne (pc := 51) 58 dX9_isSeen_51 (by decide) (fun c1 => ?_) (fun c1 => ?_)
  · have hf := fd_f c1 hf
    refine fr_loc (lv' := [(0, .ref (g.2.2.2 + 73)), (2, .int v2)]) [0, 1] rfl ?_
    exact sX9_isSeen_L58 hK8  _ _ hf
  · have hf := fd_t c1 hf
    refine fr_iconst (pc := 54) (v := (1 : Int32)) dX9_isSeen_54 (by decide) ?_
    refine fr_goto (pc := 55) 59 dX9_isSeen_55 (by decide) ?_
    refine fr_loc (lv' := [(0, .ref (g.2.2.2 + 73)), (2, .int v2)]) [0, 1] rfl ?_
    exact sX9_isSeen_L59 hK8  _ _ _ hf
def fX9_isSeen_L8  : Nat → Bool → Int32 → fd_H → Option (Bool × fd_H)
  | 0 => fun _ _ _ => none
  | n + 1 => fun v1 v2 h =>
if (h.1 73 21) ≤ v2 then (
some (v1, h))
else (
if v1 = true then (
fd_g (fd_in v2 8) (
fd_g (fd_in v2 8) (
(fX9_hasHad (h.1 91 v2.toNatClampNeg) (h.1 90 v2.toNatClampNeg) h).bind fun r6 =>
fd_g (fd_in v2 8) (
if (h.1 92 v2.toNatClampNeg) = (1 : Int32) then (
fX9_isSeen_L51  (fX9_isSeen_L8  n) v2 true r6 h)
else (
fX9_isSeen_L51  (fX9_isSeen_L8  n) v2 false r6 h)))))
else (
fX9_isSeen_L58  (fX9_isSeen_L8  n) v2 h))
set_option maxRecDepth 100000 in
set_option maxHeartbeats 4000000 in
theorem sX9_isSeen_L8 {g : fd_G} {hm : fd_H} {r : Bool × fd_H} : ∀ (n : Nat) (v1 : Bool) (v2 : Int32) (h : fd_H), fX9_isSeen_L8  n v1 v2 h = some r → fd_A g mX9_isSeen fd_E (fd_rm 3 0 0) (fd_Q g (some (.int (fd_b r.1))) fd_X0 (fd_mx hm r.2) 0 0) 8 [(0, .ref (g.2.2.2 + 73)), (1, .int (fd_b v1)), (2, .int v2)] [] fd_X0 (fd_mx hm h) 0 0 := by
  intro n
  induction n with
  | zero =>
    intro _ _ _ hf
    cases hf
  | succ n ih =>
    intro v1 v2 h hf
    rw [fX9_isSeen_L8] at hf
    refine fr_iload_n (pc := 8) dX9_isSeen_8 2 rfl rfl ?_
    refine fr_aload_n (pc := 9) dX9_isSeen_9 0 rfl rfl ?_
    refine vm_getI (pc := 10) dX9_isSeen_10 fl_X9_235 (by decide) (by decide) rfl rfl ?_
    refine fr_icmp_ge (pc := 13) 66 dX9_isSeen_13 (by decide) (fun c1 => ?_) (fun c1 => ?_)
    · have hf := fd_t c1 hf
      refine fr_iload_n (pc := 66) dX9_isSeen_66 1 rfl rfl ?_
      exact vm_zretW (x := v1) (pc := 67) dX9_isSeen_67 rfl hf
    · have hf := fd_f c1 hf
      refine fr_iload_n (pc := 16) dX9_isSeen_16 1 rfl rfl ?_
      refine fr_bz (pc := 17) 58 dX9_isSeen_17 (by decide) (fun c2 => ?_) (fun c2 => ?_)
      · have hf := fd_f c2 hf
        refine fr_loc (lv' := [(0, .ref (g.2.2.2 + 73)), (2, .int v2)]) [0, 2] rfl ?_
        exact sX9_isSeen_L58 ih  _ _ hf
      · have hf := fd_t c2 hf
        refine fr_aload_n (pc := 20) dX9_isSeen_20 0 rfl rfl ?_
        refine fr_aload_n (pc := 21) dX9_isSeen_21 0 rfl rfl ?_
        refine fr_getR (pc := 22) dX9_isSeen_22 fl_X9_62 (by decide) rfl rfl ?_
        refine fr_iload_n (pc := 25) dX9_isSeen_25 2 rfl rfl ?_
        obtain ⟨g3, hf⟩ := fd_g_e hf
        refine vm_iald (pc := 26) dX9_isSeen_26 (by decide) (by decide) rfl g3 ?_
        refine fr_aload_n (pc := 27) dX9_isSeen_27 0 rfl rfl ?_
        refine fr_getR (pc := 28) dX9_isSeen_28 fl_X9_59 (by decide) rfl rfl ?_
        refine fr_iload_n (pc := 31) dX9_isSeen_31 2 rfl rfl ?_
        obtain ⟨g4, hf⟩ := fd_g_e hf
        refine vm_iald (pc := 32) dX9_isSeen_32 (by decide) (by decide) rfl g4 ?_
        obtain ⟨r6, hc5, hf⟩ := fd_bi hf
        refine fr_callVz (pc := 33) (av := [.int (h.1 91 v2.toNatClampNeg), .int (h.1 90 v2.toNatClampNeg)]) dX9_isSeen_33 yy_X9_hasHad kw_166 (by decide) rfl rfl rfl rfl (Nat.le_of_ble_eq_true rfl) ⟨Nat.le_of_ble_eq_true rfl, Nat.le_of_ble_eq_true rfl, Nat.zero_le _, Nat.zero_le _⟩ (sX9_hasHad hc5) ?_
        refine fr_aload_n (pc := 36) dX9_isSeen_36 0 rfl rfl ?_
        refine fr_getR (pc := 37) dX9_isSeen_37 fl_X9_65 (by decide) rfl rfl ?_
        refine fr_iload_n (pc := 40) dX9_isSeen_40 2 rfl rfl ?_
        obtain ⟨g7, hf⟩ := fd_g_e hf
        refine vm_iald (pc := 41) dX9_isSeen_41 (by decide) (by decide) rfl g7 ?_
        refine fr_iconst (pc := 42) (v := (1 : Int32)) dX9_isSeen_42 (by decide) ?_
        refine fr_icmp_ne (pc := 43) 50 dX9_isSeen_43 (by decide) (fun c8 => ?_) (fun c8 => ?_)
        · have hf := fd_f c8 hf
          refine fr_iconst (pc := 50) (v := (0 : Int32)) dX9_isSeen_50 (by decide) ?_
          refine fr_loc (lv' := [(0, .ref (g.2.2.2 + 73)), (2, .int v2)]) [0, 2] rfl ?_
          exact sX9_isSeen_L51 ih  _ _ _ _ hf
        · have hf := fd_t c8 hf
          refine fr_iconst (pc := 46) (v := (1 : Int32)) dX9_isSeen_46 (by decide) ?_
          refine fr_goto (pc := 47) 51 dX9_isSeen_47 (by decide) ?_
          refine fr_loc (lv' := [(0, .ref (g.2.2.2 + 73)), (2, .int v2)]) [0, 2] rfl ?_
          exact sX9_isSeen_L51 ih  _ _ _ _ hf
def fX9_isSeen  (h : fd_H) : Option (Bool × fd_H) :=
(fX9_lays h).bind fun h2 =>
fX9_isSeen_L8  fd_fu true (0 : Int32) h2
set_option maxRecDepth 100000 in
set_option maxHeartbeats 4000000 in
theorem sX9_isSeen {g : fd_G} {hm : fd_H} {r : Bool × fd_H} {h : fd_H} (hf : fX9_isSeen  h = some r) : fd_S g mX9_isSeen 3 [.ref (g.2.2.2 + 73)] fd_X0 (fd_mx hm h) (some (.int (fd_b r.1))) fd_X0 (fd_mx hm r.2) 0 0 := by
  refine fd_S.of (by decide +kernel) (Nat.le_of_ble_eq_true rfl) ?_
  unfold fX9_isSeen at hf
  refine fr_loc (lv' := [(0, .ref (g.2.2.2 + 73))]) [0] rfl ?_
  refine fr_aload_n (pc := 0) dX9_isSeen_0 0 rfl rfl ?_
  obtain ⟨h2, hc1, hf⟩ := fd_bi hf
  refine fr_callVv (pc := 1) (av := []) dX9_isSeen_1 yy_X9_lays kw_356 (by decide) rfl rfl rfl rfl (Nat.le_of_ble_eq_true rfl) ⟨Nat.le_of_ble_eq_true rfl, Nat.le_of_ble_eq_true rfl, Nat.zero_le _, Nat.zero_le _⟩ (sX9_lays hc1) ?_
  refine fr_iconst (pc := 4) (v := (1 : Int32)) dX9_isSeen_4 (by decide) ?_
  refine fr_istore_n (pc := 5) (lv' := [(1, .int (1 : Int32)), (0, .ref (g.2.2.2 + 73))]) dX9_isSeen_5 rfl (by decide) rfl ?_
  refine fr_iconst (pc := 6) (v := (0 : Int32)) dX9_isSeen_6 (by decide) ?_
  refine fr_istore_n (pc := 7) (lv' := [(2, .int (0 : Int32)), (1, .int (1 : Int32)), (0, .ref (g.2.2.2 + 73))]) dX9_isSeen_7 rfl (by decide) rfl ?_
  refine fr_loc (lv' := [(0, .ref (g.2.2.2 + 73)), (1, .int (fd_b true)), (2, .int (0 : Int32))]) [2, 1, 0] rfl ?_
  exact sX9_isSeen_L8 _  _ _ _ hf
theorem dX8_fault_0 : decode cX8_fault 0 = .ok (.iload_n 1, 1) := by decide +kernel
theorem dX8_fault_1 : decode cX8_fault 1 = .ok (.iconst 3, 1) := by decide +kernel
theorem dX8_fault_2 : decode cX8_fault 2 = .ok (.invokestatic 62, 3) := by decide +kernel
theorem dX8_fault_5 : decode cX8_fault 5 = .ok (.ifCond .eq 16, 3) := by decide +kernel
theorem dX8_fault_8 : decode cX8_fault 8 = .ok (.iload_n 1, 1) := by decide +kernel
theorem dX8_fault_9 : decode cX8_fault 9 = .ok (.aload_n 0, 1) := by decide +kernel
theorem dX8_fault_10 : decode cX8_fault 10 = .ok (.getfield 14, 3) := by decide +kernel
theorem dX8_fault_13 : decode cX8_fault 13 = .ok (.iload_n 1, 1) := by decide +kernel
theorem dX8_fault_14 : decode cX8_fault 14 = .ok (.aaload, 1) := by decide +kernel
theorem dX8_fault_15 : decode cX8_fault 15 = .ok (.invokestatic 76, 3) := by decide +kernel
theorem dX8_fault_18 : decode cX8_fault 18 = .ok (.goto 5, 3) := by decide +kernel
theorem dX8_fault_21 : decode cX8_fault 21 = .ok (.bipush (-2), 2) := by decide +kernel
theorem dX8_fault_23 : decode cX8_fault 23 = .ok (.ireturn, 1) := by decide +kernel
def fX8_fault (a1 : Int32) (h : fd_H) : Option (Int32) :=
(fX8_isBelow a1 (3 : Int32)).bind fun r2 =>
if r2 = true then (
fd_g (fd_in a1 3) (
(fX8_faultOf a1 (2 + 3 * a1.toNatClampNeg) (fd_tn a1) h).bind fun r6 =>
some (r6)))
else (
some ((-2 : Int32)))
set_option maxRecDepth 100000 in
set_option maxHeartbeats 4000000 in
theorem sX8_fault {g : fd_G} {hm : fd_H} {a1 : Int32} {h : fd_H} {r : Int32} (hf : fX8_fault a1 h = some r) : fd_S g mX8_fault 4 [.ref (g.2.2.2 + 0), .int a1] fd_X0 (fd_mx h hm) (some (.int r)) fd_X0 (fd_mx h hm) 0 0 := by
  refine fd_S.of (by decide +kernel) (Nat.le_of_ble_eq_true rfl) ?_
  unfold fX8_fault at hf
  refine fr_loc (lv' := [(0, .ref (g.2.2.2 + 0)), (1, .int a1)]) [0, 1] rfl ?_
  refine fr_iload_n (pc := 0) dX8_fault_0 1 rfl rfl ?_
  refine fr_iconst (pc := 1) (v := (3 : Int32)) dX8_fault_1 (by decide) ?_
  obtain ⟨r2, hc1, hf⟩ := fd_bi hf
  refine fr_callSz (pc := 2) (av := [.int a1, .int (3 : Int32)]) dX8_fault_2 yy_X8_isBelow kw_111 rfl rfl (Nat.le_of_ble_eq_true rfl) ⟨Nat.le_of_ble_eq_true rfl, Nat.le_of_ble_eq_true rfl, Nat.zero_le _, Nat.zero_le _⟩ (sX8_isBelow hc1) ?_
  refine fr_bz (pc := 5) 21 dX8_fault_5 (by decide) (fun c3 => ?_) (fun c3 => ?_)
  · have hf := fd_f c3 hf
    refine fr_bipush (pc := 21) (v := (-2 : Int32)) dX8_fault_21 (by decide) ?_
    exact fr_iretP (x := (-2 : Int32)) (pc := 23) dX8_fault_23 rfl hf
  · have hf := fd_t c3 hf
    refine fr_iload_n (pc := 8) dX8_fault_8 1 rfl rfl ?_
    refine fr_aload_n (pc := 9) dX8_fault_9 0 rfl rfl ?_
    refine fr_getR (pc := 10) dX8_fault_10 fl_X8_14 (by decide) rfl rfl ?_
    refine fr_iload_n (pc := 13) dX8_fault_13 1 rfl rfl ?_
    obtain ⟨g4, hf⟩ := fd_g_e hf
    refine fr_aaldT (pc := 14) dX8_fault_14 (by decide) rfl g4 rfl ?_
    obtain ⟨r6, hc5, hf⟩ := fd_bi hf
    refine fr_callSi (pc := 15) (av := [.int a1, .ref (g.2.2.2 + (2 + 3 * a1.toNatClampNeg))]) dX8_fault_15 yy_X8_faultOf kw_368 rfl rfl (Nat.le_of_ble_eq_true rfl) ⟨Nat.le_of_ble_eq_true rfl, Nat.le_of_ble_eq_true rfl, Nat.zero_le _, Nat.zero_le _⟩ (sX8_faultOf (fd_isTextA g4) hc5) ?_
    refine fr_goto (pc := 18) 23 dX8_fault_18 (by decide) ?_
    exact fr_iretP (x := r6) (pc := 23) dX8_fault_23 rfl hf
theorem dX8_zero_0 : decode cX8_zero 0 = .ok (.iload_n 1, 1) := by decide +kernel
theorem dX8_zero_1 : decode cX8_zero 1 = .ok (.bipush 26, 2) := by decide +kernel
theorem dX8_zero_3 : decode cX8_zero 3 = .ok (.invokestatic 62, 3) := by decide +kernel
theorem dX8_zero_6 : decode cX8_zero 6 = .ok (.ifCond .ne 6, 3) := by decide +kernel
theorem dX8_zero_9 : decode cX8_zero 9 = .ok (.bipush (-2), 2) := by decide +kernel
theorem dX8_zero_11 : decode cX8_zero 11 = .ok (.ireturn, 1) := by decide +kernel
theorem dX8_zero_12 : decode cX8_zero 12 = .ok (.aload_n 0, 1) := by decide +kernel
theorem dX8_zero_13 : decode cX8_zero 13 = .ok (.getfield 21, 3) := by decide +kernel
theorem dX8_zero_16 : decode cX8_zero 16 = .ok (.getfield 111, 3) := by decide +kernel
theorem dX8_zero_19 : decode cX8_zero 19 = .ok (.istore_n 2, 1) := by decide +kernel
theorem dX8_zero_20 : decode cX8_zero 20 = .ok (.aload_n 0, 1) := by decide +kernel
theorem dX8_zero_21 : decode cX8_zero 21 = .ok (.getfield 21, 3) := by decide +kernel
theorem dX8_zero_24 : decode cX8_zero 24 = .ok (.iload_n 1, 1) := by decide +kernel
theorem dX8_zero_25 : decode cX8_zero 25 = .ok (.putfield 111, 3) := by decide +kernel
theorem dX8_zero_28 : decode cX8_zero 28 = .ok (.aload_n 0, 1) := by decide +kernel
theorem dX8_zero_29 : decode cX8_zero 29 = .ok (.getfield 21, 3) := by decide +kernel
theorem dX8_zero_32 : decode cX8_zero 32 = .ok (.invokevirtual 114, 3) := by decide +kernel
theorem dX8_zero_35 : decode cX8_zero 35 = .ok (.iload_n 2, 1) := by decide +kernel
theorem dX8_zero_36 : decode cX8_zero 36 = .ok (.ireturn, 1) := by decide +kernel
def fX8_zero (a1 : Int32) (h : fd_H) : Option (Int32 × fd_H) :=
(fX8_isBelow a1 (26 : Int32)).bind fun r2 =>
if r2 = true then (
fd_lt ((h.1 11 6)) fun x4 =>
fd_lt (fd_ui h 11 6 a1) fun h5 =>
(fX7_settle h5).bind fun h7 =>
some (x4, h7))
else (
some ((-2 : Int32), h))
set_option maxRecDepth 100000 in
set_option maxHeartbeats 4000000 in
theorem sX8_zero {g : fd_G} {hm : fd_H} {a1 : Int32} {r : Int32 × fd_H} {h : fd_H} (hf : fX8_zero a1 h = some r) : fd_S g mX8_zero 4 [.ref (g.2.2.2 + 0), .int a1] fd_X0 (fd_mx h hm) (some (.int r.1)) fd_X0 (fd_mx r.2 hm) 0 0 := by
  refine fd_S.of (by decide +kernel) (Nat.le_of_ble_eq_true rfl) ?_
  unfold fX8_zero at hf
  refine fr_loc (lv' := [(0, .ref (g.2.2.2 + 0)), (1, .int a1)]) [0, 1] rfl ?_
  refine fr_iload_n (pc := 0) dX8_zero_0 1 rfl rfl ?_
  refine fr_bipush (pc := 1) (v := (26 : Int32)) dX8_zero_1 (by decide) ?_
  obtain ⟨r2, hc1, hf⟩ := fd_bi hf
  refine fr_callSz (pc := 3) (av := [.int a1, .int (26 : Int32)]) dX8_zero_3 yy_X8_isBelow kw_111 rfl rfl (Nat.le_of_ble_eq_true rfl) ⟨Nat.le_of_ble_eq_true rfl, Nat.le_of_ble_eq_true rfl, Nat.zero_le _, Nat.zero_le _⟩ (sX8_isBelow hc1) ?_
  refine fr_bn (pc := 6) 12 dX8_zero_6 (by decide) (fun c3 => ?_) (fun c3 => ?_)
  · have hf := fd_t c3 hf
    refine fr_aload_n (pc := 12) dX8_zero_12 0 rfl rfl ?_
    refine fr_getR (pc := 13) dX8_zero_13 fl_X8_21 (by decide) rfl rfl ?_
    refine vx_getI (pc := 16) dX8_zero_16 fl_X8_111 (by decide) (by decide) rfl rfl ?_
    obtain ⟨x4, ex4, hf⟩ := fd_lt_e hf
    refine fr_nmi ex4 ?_
    refine fr_istore_n (pc := 19) (lv' := [(2, .int x4), (0, .ref (g.2.2.2 + 0)), (1, .int a1)]) dX8_zero_19 rfl (by decide) rfl ?_
    refine fr_aload_n (pc := 20) dX8_zero_20 1 rfl rfl ?_
    refine fr_getR (pc := 21) dX8_zero_21 fl_X8_21 (by decide) rfl rfl ?_
    refine fr_iload_n (pc := 24) dX8_zero_24 2 rfl rfl ?_
    obtain ⟨h5, eh5, hf⟩ := fd_lt_e hf
    refine vx_putI (pc := 25) dX8_zero_25 fl_X8_111 ft_X7_6 (by decide) (by decide) rfl rfl eh5 ?_
    refine fr_aload_n (pc := 28) dX8_zero_28 1 rfl rfl ?_
    refine fr_getR (pc := 29) dX8_zero_29 fl_X8_21 (by decide) rfl rfl ?_
    obtain ⟨h7, hc6, hf⟩ := fd_bi hf
    refine fr_callVv (pc := 32) (av := []) dX8_zero_32 yy_X7_settle kw_373 (by decide) rfl rfl rfl rfl (Nat.le_of_ble_eq_true rfl) ⟨Nat.le_of_ble_eq_true rfl, Nat.le_of_ble_eq_true rfl, Nat.zero_le _, Nat.zero_le _⟩ (sX7_settle hc6) ?_
    refine fr_iload_n (pc := 35) dX8_zero_35 0 rfl rfl ?_
    exact vx_iretW (x := x4) (pc := 36) dX8_zero_36 rfl hf
  · have hf := fd_f c3 hf
    refine fr_bipush (pc := 9) (v := (-2 : Int32)) dX8_zero_9 (by decide) ?_
    exact vx_iretW (x := (-2 : Int32)) (pc := 11) dX8_zero_11 rfl hf
theorem dX8_back_0 : decode cX8_back 0 = .ok (.iload_n 1, 1) := by decide +kernel
theorem dX8_back_1 : decode cX8_back 1 = .ok (.iconst 3, 1) := by decide +kernel
theorem dX8_back_2 : decode cX8_back 2 = .ok (.invokestatic 62, 3) := by decide +kernel
theorem dX8_back_5 : decode cX8_back 5 = .ok (.ifCond .ne 6, 3) := by decide +kernel
theorem dX8_back_8 : decode cX8_back 8 = .ok (.bipush (-2), 2) := by decide +kernel
theorem dX8_back_10 : decode cX8_back 10 = .ok (.ireturn, 1) := by decide +kernel
theorem dX8_back_11 : decode cX8_back 11 = .ok (.iload_n 1, 1) := by decide +kernel
theorem dX8_back_12 : decode cX8_back 12 = .ok (.ifCond .ne 13, 3) := by decide +kernel
theorem dX8_back_15 : decode cX8_back 15 = .ok (.aload_n 0, 1) := by decide +kernel
theorem dX8_back_16 : decode cX8_back 16 = .ok (.getfield 21, 3) := by decide +kernel
theorem dX8_back_19 : decode cX8_back 19 = .ok (.getfield 117, 3) := by decide +kernel
theorem dX8_back_22 : decode cX8_back 22 = .ok (.goto 25, 3) := by decide +kernel
theorem dX8_back_25 : decode cX8_back 25 = .ok (.iload_n 1, 1) := by decide +kernel
theorem dX8_back_26 : decode cX8_back 26 = .ok (.iconst 1, 1) := by decide +kernel
theorem dX8_back_27 : decode cX8_back 27 = .ok (.if_icmp .ne 13, 3) := by decide +kernel
theorem dX8_back_30 : decode cX8_back 30 = .ok (.aload_n 0, 1) := by decide +kernel
theorem dX8_back_31 : decode cX8_back 31 = .ok (.getfield 21, 3) := by decide +kernel
theorem dX8_back_34 : decode cX8_back 34 = .ok (.getfield 124, 3) := by decide +kernel
theorem dX8_back_37 : decode cX8_back 37 = .ok (.goto 10, 3) := by decide +kernel
theorem dX8_back_40 : decode cX8_back 40 = .ok (.aload_n 0, 1) := by decide +kernel
theorem dX8_back_41 : decode cX8_back 41 = .ok (.getfield 21, 3) := by decide +kernel
theorem dX8_back_44 : decode cX8_back 44 = .ok (.getfield 127, 3) := by decide +kernel
theorem dX8_back_47 : decode cX8_back 47 = .ok (.astore_n 2, 1) := by decide +kernel
theorem dX8_back_48 : decode cX8_back 48 = .ok (.aload_n 2, 1) := by decide +kernel
theorem dX8_back_49 : decode cX8_back 49 = .ok (.getfield 130, 3) := by decide +kernel
theorem dX8_back_52 : decode cX8_back 52 = .ok (.ifCond .ne 6, 3) := by decide +kernel
theorem dX8_back_55 : decode cX8_back 55 = .ok (.bipush (-3), 2) := by decide +kernel
theorem dX8_back_57 : decode cX8_back 57 = .ok (.ireturn, 1) := by decide +kernel
theorem dX8_back_58 : decode cX8_back 58 = .ok (.aload_n 2, 1) := by decide +kernel
theorem dX8_back_59 : decode cX8_back 59 = .ok (.dup, 1) := by decide +kernel
theorem dX8_back_60 : decode cX8_back 60 = .ok (.getfield 130, 3) := by decide +kernel
theorem dX8_back_63 : decode cX8_back 63 = .ok (.iconst 1, 1) := by decide +kernel
theorem dX8_back_64 : decode cX8_back 64 = .ok (.isub, 1) := by decide +kernel
theorem dX8_back_65 : decode cX8_back 65 = .ok (.putfield 130, 3) := by decide +kernel
theorem dX8_back_68 : decode cX8_back 68 = .ok (.aload_n 0, 1) := by decide +kernel
theorem dX8_back_69 : decode cX8_back 69 = .ok (.getfield 21, 3) := by decide +kernel
theorem dX8_back_72 : decode cX8_back 72 = .ok (.invokevirtual 114, 3) := by decide +kernel
theorem dX8_back_75 : decode cX8_back 75 = .ok (.aload_n 2, 1) := by decide +kernel
theorem dX8_back_76 : decode cX8_back 76 = .ok (.getfield 130, 3) := by decide +kernel
theorem dX8_back_79 : decode cX8_back 79 = .ok (.ireturn, 1) := by decide +kernel
def fX8_back_L47 (a1 : Int32) (vs0 : Nat) (h : fd_H) : Option (Int32 × fd_H) :=
if (h.1 vs0 3) = 0 then (
some ((-3 : Int32), h))
else (
fd_lt (fd_ui h vs0 3 ((h.1 vs0 3) - (1 : Int32))) fun h2 =>
(fX7_settle h2).bind fun h4 =>
some ((h4.1 vs0 3), h4))
set_option maxRecDepth 100000 in
set_option maxHeartbeats 4000000 in
theorem sX8_back_L47 {g : fd_G} {hm : fd_H} {a1 : Int32} {r : Int32 × fd_H} : ∀ (vs0 : Nat) (h : fd_H) (pvs0 : fd_isMarks vs0), fX8_back_L47 a1 vs0 h = some r → fd_A g mX8_back fd_E (fd_rm 4 0 0) (fd_Q g (some (.int r.1)) fd_X0 (fd_mx r.2 hm) 0 0) 47 [(0, .ref (g.2.2.2 + 0))] [.ref (g.2.2.2 + vs0)] fd_X0 (fd_mx h hm) 0 0 := by
  intro vs0 h pvs0 hf
  unfold fX8_back_L47 at hf
  refine fr_astore_n (pc := 47) (lv' := [(2, .ref (g.2.2.2 + vs0)), (0, .ref (g.2.2.2 + 0))]) dX8_back_47 rfl (by decide) rfl ?_
  refine fr_aload_n (pc := 48) dX8_back_48 0 rfl rfl ?_
  refine vx_getI (pc := 49) dX8_back_49 fl_X8_130 pvs0.b pvs0.x pvs0.s rfl ?_
  refine fr_if_ne (pc := 52) 58 dX8_back_52 (by decide) (fun c1 => ?_) (fun c1 => ?_)
  · have hf := fd_f c1 hf
    refine fr_aload_n (pc := 58) dX8_back_58 0 rfl rfl ?_
    refine fr_dup (pc := 59) dX8_back_59 rfl ?_
    refine vx_getI (pc := 60) dX8_back_60 fl_X8_130 pvs0.b pvs0.x pvs0.s rfl ?_
    refine fr_iconst (pc := 63) (v := (1 : Int32)) dX8_back_63 (by decide) ?_
    refine fr_isub (pc := 64) dX8_back_64 ?_
    obtain ⟨h2, eh2, hf⟩ := fd_lt_e hf
    refine vx_putI (pc := 65) dX8_back_65 fl_X8_130 ft_X1_3 pvs0.b pvs0.x pvs0.s rfl eh2 ?_
    refine fr_aload_n (pc := 68) dX8_back_68 1 rfl rfl ?_
    refine fr_getR (pc := 69) dX8_back_69 fl_X8_21 (by decide) rfl rfl ?_
    obtain ⟨h4, hc3, hf⟩ := fd_bi hf
    refine fr_callVv (pc := 72) (av := []) dX8_back_72 yy_X7_settle kw_373 (by decide) rfl rfl rfl rfl (Nat.le_of_ble_eq_true rfl) ⟨Nat.le_of_ble_eq_true rfl, Nat.le_of_ble_eq_true rfl, Nat.zero_le _, Nat.zero_le _⟩ (sX7_settle hc3) ?_
    refine fr_aload_n (pc := 75) dX8_back_75 0 rfl rfl ?_
    refine vx_getI (pc := 76) dX8_back_76 fl_X8_130 pvs0.b pvs0.x pvs0.s rfl ?_
    exact vx_iretW (x := (h4.1 vs0 3)) (pc := 79) dX8_back_79 rfl hf
  · have hf := fd_t c1 hf
    refine fr_bipush (pc := 55) (v := (-3 : Int32)) dX8_back_55 (by decide) ?_
    exact vx_iretW (x := (-3 : Int32)) (pc := 57) dX8_back_57 rfl hf
def fX8_back (a1 : Int32) (h : fd_H) : Option (Int32 × fd_H) :=
(fX8_isBelow a1 (3 : Int32)).bind fun r2 =>
if r2 = true then (
if a1 = 0 then (
fX8_back_L47 a1 19 h)
else (
if a1 = (1 : Int32) then (
fX8_back_L47 a1 26 h)
else (
fX8_back_L47 a1 33 h)))
else (
some ((-2 : Int32), h))
set_option maxRecDepth 100000 in
set_option maxHeartbeats 4000000 in
theorem sX8_back {g : fd_G} {hm : fd_H} {a1 : Int32} {r : Int32 × fd_H} {h : fd_H} (hf : fX8_back a1 h = some r) : fd_S g mX8_back 4 [.ref (g.2.2.2 + 0), .int a1] fd_X0 (fd_mx h hm) (some (.int r.1)) fd_X0 (fd_mx r.2 hm) 0 0 := by
  refine fd_S.of (by decide +kernel) (Nat.le_of_ble_eq_true rfl) ?_
  unfold fX8_back at hf
  refine fr_loc (lv' := [(0, .ref (g.2.2.2 + 0)), (1, .int a1)]) [0, 1] rfl ?_
  refine fr_iload_n (pc := 0) dX8_back_0 1 rfl rfl ?_
  refine fr_iconst (pc := 1) (v := (3 : Int32)) dX8_back_1 (by decide) ?_
  obtain ⟨r2, hc1, hf⟩ := fd_bi hf
  refine fr_callSz (pc := 2) (av := [.int a1, .int (3 : Int32)]) dX8_back_2 yy_X8_isBelow kw_111 rfl rfl (Nat.le_of_ble_eq_true rfl) ⟨Nat.le_of_ble_eq_true rfl, Nat.le_of_ble_eq_true rfl, Nat.zero_le _, Nat.zero_le _⟩ (sX8_isBelow hc1) ?_
  refine fr_bn (pc := 5) 11 dX8_back_5 (by decide) (fun c3 => ?_) (fun c3 => ?_)
  · have hf := fd_t c3 hf
    refine fr_iload_n (pc := 11) dX8_back_11 1 rfl rfl ?_
    refine fr_if_ne (pc := 12) 25 dX8_back_12 (by decide) (fun c4 => ?_) (fun c4 => ?_)
    · have hf := fd_f c4 hf
      refine fr_iload_n (pc := 25) dX8_back_25 1 rfl rfl ?_
      refine fr_iconst (pc := 26) (v := (1 : Int32)) dX8_back_26 (by decide) ?_
      refine fr_icmp_ne (pc := 27) 40 dX8_back_27 (by decide) (fun c5 => ?_) (fun c5 => ?_)
      · have hf := fd_f c5 hf
        refine fr_aload_n (pc := 40) dX8_back_40 0 rfl rfl ?_
        refine fr_getR (pc := 41) dX8_back_41 fl_X8_21 (by decide) rfl rfl ?_
        refine fr_getR (pc := 44) dX8_back_44 fl_X8_127 (by decide) rfl rfl ?_
        refine fr_loc (lv' := [(0, .ref (g.2.2.2 + 0))]) [0] rfl ?_
        exact sX8_back_L47  _ _ is_33 hf
      · have hf := fd_t c5 hf
        refine fr_aload_n (pc := 30) dX8_back_30 0 rfl rfl ?_
        refine fr_getR (pc := 31) dX8_back_31 fl_X8_21 (by decide) rfl rfl ?_
        refine fr_getR (pc := 34) dX8_back_34 fl_X8_124 (by decide) rfl rfl ?_
        refine fr_goto (pc := 37) 47 dX8_back_37 (by decide) ?_
        refine fr_loc (lv' := [(0, .ref (g.2.2.2 + 0))]) [0] rfl ?_
        exact sX8_back_L47  _ _ is_26 hf
    · have hf := fd_t c4 hf
      refine fr_aload_n (pc := 15) dX8_back_15 0 rfl rfl ?_
      refine fr_getR (pc := 16) dX8_back_16 fl_X8_21 (by decide) rfl rfl ?_
      refine fr_getR (pc := 19) dX8_back_19 fl_X8_117 (by decide) rfl rfl ?_
      refine fr_goto (pc := 22) 47 dX8_back_22 (by decide) ?_
      refine fr_loc (lv' := [(0, .ref (g.2.2.2 + 0))]) [0] rfl ?_
      exact sX8_back_L47  _ _ is_19 hf
  · have hf := fd_f c3 hf
    refine fr_bipush (pc := 8) (v := (-2 : Int32)) dX8_back_8 (by decide) ?_
    exact vx_iretW (x := (-2 : Int32)) (pc := 10) dX8_back_10 rfl hf
theorem dX8_lasts_0 : decode cX8_lasts 0 = .ok (.iload_n 1, 1) := by decide +kernel
theorem dX8_lasts_1 : decode cX8_lasts 1 = .ok (.aload_n 0, 1) := by decide +kernel
theorem dX8_lasts_2 : decode cX8_lasts 2 = .ok (.getfield 33, 3) := by decide +kernel
theorem dX8_lasts_5 : decode cX8_lasts 5 = .ok (.getfield 104, 3) := by decide +kernel
theorem dX8_lasts_8 : decode cX8_lasts 8 = .ok (.invokestatic 62, 3) := by decide +kernel
theorem dX8_lasts_11 : decode cX8_lasts 11 = .ok (.ifCond .eq 11, 3) := by decide +kernel
theorem dX8_lasts_14 : decode cX8_lasts 14 = .ok (.iload_n 2, 1) := by decide +kernel
theorem dX8_lasts_15 : decode cX8_lasts 15 = .ok (.iconst 2, 1) := by decide +kernel
theorem dX8_lasts_16 : decode cX8_lasts 16 = .ok (.invokestatic 62, 3) := by decide +kernel
theorem dX8_lasts_19 : decode cX8_lasts 19 = .ok (.ifCond .ne 6, 3) := by decide +kernel
theorem dX8_lasts_22 : decode cX8_lasts 22 = .ok (.bipush (-2), 2) := by decide +kernel
theorem dX8_lasts_24 : decode cX8_lasts 24 = .ok (.ireturn, 1) := by decide +kernel
theorem dX8_lasts_25 : decode cX8_lasts 25 = .ok (.iload_n 2, 1) := by decide +kernel
theorem dX8_lasts_26 : decode cX8_lasts 26 = .ok (.ifCond .ne 18, 3) := by decide +kernel
theorem dX8_lasts_29 : decode cX8_lasts 29 = .ok (.aload_n 0, 1) := by decide +kernel
theorem dX8_lasts_30 : decode cX8_lasts 30 = .ok (.iload_n 1, 1) := by decide +kernel
theorem dX8_lasts_31 : decode cX8_lasts 31 = .ok (.aload_n 0, 1) := by decide +kernel
theorem dX8_lasts_32 : decode cX8_lasts 32 = .ok (.getfield 33, 3) := by decide +kernel
theorem dX8_lasts_35 : decode cX8_lasts 35 = .ok (.iload_n 1, 1) := by decide +kernel
theorem dX8_lasts_36 : decode cX8_lasts 36 = .ok (.iconst 3, 1) := by decide +kernel
theorem dX8_lasts_37 : decode cX8_lasts 37 = .ok (.invokevirtual 107, 3) := by decide +kernel
theorem dX8_lasts_40 : decode cX8_lasts 40 = .ok (.invokevirtual 158, 3) := by decide +kernel
theorem dX8_lasts_43 : decode cX8_lasts 43 = .ok (.ireturn, 1) := by decide +kernel
theorem dX8_lasts_44 : decode cX8_lasts 44 = .ok (.aload_n 0, 1) := by decide +kernel
theorem dX8_lasts_45 : decode cX8_lasts 45 = .ok (.iload_n 1, 1) := by decide +kernel
theorem dX8_lasts_46 : decode cX8_lasts 46 = .ok (.invokevirtual 161, 3) := by decide +kernel
theorem dX8_lasts_49 : decode cX8_lasts 49 = .ok (.ifCond .eq 7, 3) := by decide +kernel
theorem dX8_lasts_52 : decode cX8_lasts 52 = .ok (.iconst 1, 1) := by decide +kernel
theorem dX8_lasts_53 : decode cX8_lasts 53 = .ok (.goto 4, 3) := by decide +kernel
theorem dX8_lasts_56 : decode cX8_lasts 56 = .ok (.iconst 0, 1) := by decide +kernel
theorem dX8_lasts_57 : decode cX8_lasts 57 = .ok (.ireturn, 1) := by decide +kernel
def fX8_lasts (a1 : Int32) (a2 : Int32) (h : fd_H) : Option (Int32) :=
(fX8_isBelow a1 (h.1 48 1)).bind fun r2 =>
if r2 = true then (
(fX8_isBelow a2 (2 : Int32)).bind fun r5 =>
if r5 = true then (
if a2 = 0 then (
(fX0_fact a1 (3 : Int32) h).bind fun r12 =>
(fX8_nightsStood a1 r12 h).bind fun r14 =>
some (r14))
else (
(fX8_isNothing a1 h).bind fun r9 =>
if r9 = true then (
some ((1 : Int32)))
else (
some ((0 : Int32)))))
else (
some ((-2 : Int32))))
else (
some ((-2 : Int32)))
set_option maxRecDepth 100000 in
set_option maxHeartbeats 4000000 in
theorem sX8_lasts {g : fd_G} {hm : fd_H} {a1 : Int32} {a2 : Int32} {h : fd_H} {r : Int32} (hf : fX8_lasts a1 a2 h = some r) : fd_S g mX8_lasts 4 [.ref (g.2.2.2 + 0), .int a1, .int a2] fd_X0 (fd_mx h hm) (some (.int r)) fd_X0 (fd_mx h hm) 0 0 := by
  refine fd_S.of (by decide +kernel) (Nat.le_of_ble_eq_true rfl) ?_
  unfold fX8_lasts at hf
  refine fr_loc (lv' := [(0, .ref (g.2.2.2 + 0)), (1, .int a1), (2, .int a2)]) [0, 1, 2] rfl ?_
  refine fr_iload_n (pc := 0) dX8_lasts_0 1 rfl rfl ?_
  refine fr_aload_n (pc := 1) dX8_lasts_1 0 rfl rfl ?_
  refine fr_getR (pc := 2) dX8_lasts_2 fl_X8_33 (by decide) rfl rfl ?_
  refine vx_getI (pc := 5) dX8_lasts_5 fl_X8_104 (by decide) (by decide) rfl rfl ?_
  obtain ⟨r2, hc1, hf⟩ := fd_bi hf
  refine fr_callSz (pc := 8) (av := [.int a1, .int (h.1 48 1)]) dX8_lasts_8 yy_X8_isBelow kw_111 rfl rfl (Nat.le_of_ble_eq_true rfl) ⟨Nat.le_of_ble_eq_true rfl, Nat.le_of_ble_eq_true rfl, Nat.zero_le _, Nat.zero_le _⟩ (sX8_isBelow hc1) ?_
  refine fr_bz (pc := 11) 22 dX8_lasts_11 (by decide) (fun c3 => ?_) (fun c3 => ?_)
  · have hf := fd_f c3 hf
    refine fr_bipush (pc := 22) (v := (-2 : Int32)) dX8_lasts_22 (by decide) ?_
    exact fr_iretP (x := (-2 : Int32)) (pc := 24) dX8_lasts_24 rfl hf
  · have hf := fd_t c3 hf
    refine fr_iload_n (pc := 14) dX8_lasts_14 2 rfl rfl ?_
    refine fr_iconst (pc := 15) (v := (2 : Int32)) dX8_lasts_15 (by decide) ?_
    obtain ⟨r5, hc4, hf⟩ := fd_bi hf
    refine fr_callSz (pc := 16) (av := [.int a2, .int (2 : Int32)]) dX8_lasts_16 yy_X8_isBelow kw_111 rfl rfl (Nat.le_of_ble_eq_true rfl) ⟨Nat.le_of_ble_eq_true rfl, Nat.le_of_ble_eq_true rfl, Nat.zero_le _, Nat.zero_le _⟩ (sX8_isBelow hc4) ?_
    refine fr_bn (pc := 19) 25 dX8_lasts_19 (by decide) (fun c6 => ?_) (fun c6 => ?_)
    · have hf := fd_t c6 hf
      refine fr_iload_n (pc := 25) dX8_lasts_25 2 rfl rfl ?_
      refine fr_if_ne (pc := 26) 44 dX8_lasts_26 (by decide) (fun c7 => ?_) (fun c7 => ?_)
      · have hf := fd_f c7 hf
        refine fr_aload_n (pc := 44) dX8_lasts_44 0 rfl rfl ?_
        refine fr_iload_n (pc := 45) dX8_lasts_45 1 rfl rfl ?_
        obtain ⟨r9, hc8, hf⟩ := fd_bi hf
        refine fr_callVz (pc := 46) (av := [.int a1]) dX8_lasts_46 yy_X8_isNothing kw_377 (by decide) rfl rfl rfl rfl (Nat.le_of_ble_eq_true rfl) ⟨Nat.le_of_ble_eq_true rfl, Nat.le_of_ble_eq_true rfl, Nat.zero_le _, Nat.zero_le _⟩ (sX8_isNothing hc8) ?_
        refine fr_bz (pc := 49) 56 dX8_lasts_49 (by decide) (fun c10 => ?_) (fun c10 => ?_)
        · have hf := fd_f c10 hf
          refine fr_iconst (pc := 56) (v := (0 : Int32)) dX8_lasts_56 (by decide) ?_
          exact fr_iretP (x := (0 : Int32)) (pc := 57) dX8_lasts_57 rfl hf
        · have hf := fd_t c10 hf
          refine fr_iconst (pc := 52) (v := (1 : Int32)) dX8_lasts_52 (by decide) ?_
          refine fr_goto (pc := 53) 57 dX8_lasts_53 (by decide) ?_
          exact fr_iretP (x := (1 : Int32)) (pc := 57) dX8_lasts_57 rfl hf
      · have hf := fd_t c7 hf
        refine fr_aload_n (pc := 29) dX8_lasts_29 0 rfl rfl ?_
        refine fr_iload_n (pc := 30) dX8_lasts_30 1 rfl rfl ?_
        refine fr_aload_n (pc := 31) dX8_lasts_31 0 rfl rfl ?_
        refine fr_getR (pc := 32) dX8_lasts_32 fl_X8_33 (by decide) rfl rfl ?_
        refine fr_iload_n (pc := 35) dX8_lasts_35 1 rfl rfl ?_
        refine fr_iconst (pc := 36) (v := (3 : Int32)) dX8_lasts_36 (by decide) ?_
        obtain ⟨r12, hc11, hf⟩ := fd_bi hf
        refine fr_callVi (pc := 37) (av := [.int a1, .int (3 : Int32)]) dX8_lasts_37 yy_X0_fact kw_195 (by decide) rfl rfl rfl rfl (Nat.le_of_ble_eq_true rfl) ⟨Nat.le_of_ble_eq_true rfl, Nat.le_of_ble_eq_true rfl, Nat.zero_le _, Nat.zero_le _⟩ (sX0_fact hc11) ?_
        obtain ⟨r14, hc13, hf⟩ := fd_bi hf
        refine fr_callVi (pc := 40) (av := [.int a1, .int r12]) dX8_lasts_40 yy_X8_nightsStood kw_381 (by decide) rfl rfl rfl rfl (Nat.le_of_ble_eq_true rfl) ⟨Nat.le_of_ble_eq_true rfl, Nat.le_of_ble_eq_true rfl, Nat.zero_le _, Nat.zero_le _⟩ (sX8_nightsStood hc13) ?_
        exact fr_iretP (x := r14) (pc := 43) dX8_lasts_43 rfl hf
    · have hf := fd_f c6 hf
      refine fr_bipush (pc := 22) (v := (-2 : Int32)) dX8_lasts_22 (by decide) ?_
      exact fr_iretP (x := (-2 : Int32)) (pc := 24) dX8_lasts_24 rfl hf
theorem dX8_owes_0 : decode cX8_owes 0 = .ok (.iload_n 1, 1) := by decide +kernel
theorem dX8_owes_1 : decode cX8_owes 1 = .ok (.bipush 6, 2) := by decide +kernel
theorem dX8_owes_3 : decode cX8_owes 3 = .ok (.invokestatic 62, 3) := by decide +kernel
theorem dX8_owes_6 : decode cX8_owes 6 = .ok (.ifCond .eq 20, 3) := by decide +kernel
theorem dX8_owes_9 : decode cX8_owes 9 = .ok (.iload_n 2, 1) := by decide +kernel
theorem dX8_owes_10 : decode cX8_owes 10 = .ok (.bipush 40, 2) := by decide +kernel
theorem dX8_owes_12 : decode cX8_owes 12 = .ok (.invokestatic 62, 3) := by decide +kernel
theorem dX8_owes_15 : decode cX8_owes 15 = .ok (.ifCond .eq 11, 3) := by decide +kernel
theorem dX8_owes_18 : decode cX8_owes 18 = .ok (.iload_n 3, 1) := by decide +kernel
theorem dX8_owes_19 : decode cX8_owes 19 = .ok (.iconst 2, 1) := by decide +kernel
theorem dX8_owes_20 : decode cX8_owes 20 = .ok (.invokestatic 62, 3) := by decide +kernel
theorem dX8_owes_23 : decode cX8_owes 23 = .ok (.ifCond .ne 6, 3) := by decide +kernel
theorem dX8_owes_26 : decode cX8_owes 26 = .ok (.bipush (-2), 2) := by decide +kernel
theorem dX8_owes_28 : decode cX8_owes 28 = .ok (.ireturn, 1) := by decide +kernel
theorem dX8_owes_29 : decode cX8_owes 29 = .ok (.aload_n 0, 1) := by decide +kernel
theorem dX8_owes_30 : decode cX8_owes 30 = .ok (.iload_n 1, 1) := by decide +kernel
theorem dX8_owes_31 : decode cX8_owes 31 = .ok (.iload_n 2, 1) := by decide +kernel
theorem dX8_owes_32 : decode cX8_owes 32 = .ok (.iload_n 3, 1) := by decide +kernel
theorem dX8_owes_33 : decode cX8_owes 33 = .ok (.ifCond .ne 7, 3) := by decide +kernel
theorem dX8_owes_36 : decode cX8_owes 36 = .ok (.iconst 0, 1) := by decide +kernel
theorem dX8_owes_37 : decode cX8_owes 37 = .ok (.goto 4, 3) := by decide +kernel
theorem dX8_owes_40 : decode cX8_owes 40 = .ok (.iconst 1, 1) := by decide +kernel
theorem dX8_owes_41 : decode cX8_owes 41 = .ok (.invokevirtual 164, 3) := by decide +kernel
theorem dX8_owes_44 : decode cX8_owes 44 = .ok (.ireturn, 1) := by decide +kernel
def fX8_owes_L41 (a1 : Int32) (a2 : Int32) (a3 : Int32) (h : fd_H) (vs0 : Bool) : Option (Int32) :=
(fX8_sumOf a1 a2 (fd_b vs0) h).bind fun r2 =>
some (r2)
set_option maxRecDepth 100000 in
set_option maxHeartbeats 4000000 in
theorem sX8_owes_L41 {g : fd_G} {hm : fd_H} {a1 : Int32} {a2 : Int32} {a3 : Int32} {h : fd_H} {r : Int32} : ∀ (vs0 : Bool), fX8_owes_L41 a1 a2 a3 h vs0 = some r → fd_A g mX8_owes fd_E (fd_rm 4 0 0) (fd_Q g (some (.int r)) fd_X0 (fd_mx h hm) 0 0) 41 [] [.int (fd_b vs0), .int a2, .int a1, .ref (g.2.2.2 + 0)] fd_X0 (fd_mx h hm) 0 0 := by
  intro vs0 hf
  unfold fX8_owes_L41 at hf
  obtain ⟨r2, hc1, hf⟩ := fd_bi hf
  refine fr_callVi (pc := 41) (av := [.int a1, .int a2, .int (fd_b vs0)]) dX8_owes_41 yy_X8_sumOf kw_385 (by decide) rfl rfl rfl rfl (Nat.le_of_ble_eq_true rfl) ⟨Nat.le_of_ble_eq_true rfl, Nat.le_of_ble_eq_true rfl, Nat.zero_le _, Nat.zero_le _⟩ (sX8_sumOf hc1) ?_
  exact fr_iretP (x := r2) (pc := 44) dX8_owes_44 rfl hf
def fX8_owes (a1 : Int32) (a2 : Int32) (a3 : Int32) (h : fd_H) : Option (Int32) :=
(fX8_isBelow a1 (6 : Int32)).bind fun r2 =>
if r2 = true then (
(fX8_isBelow a2 (40 : Int32)).bind fun r5 =>
if r5 = true then (
(fX8_isBelow a3 (2 : Int32)).bind fun r8 =>
if r8 = true then (
if a3 = 0 then (
fX8_owes_L41 a1 a2 a3 h false)
else (
fX8_owes_L41 a1 a2 a3 h true))
else (
some ((-2 : Int32))))
else (
some ((-2 : Int32))))
else (
some ((-2 : Int32)))
set_option maxRecDepth 100000 in
set_option maxHeartbeats 4000000 in
theorem sX8_owes {g : fd_G} {hm : fd_H} {a1 : Int32} {a2 : Int32} {a3 : Int32} {h : fd_H} {r : Int32} (hf : fX8_owes a1 a2 a3 h = some r) : fd_S g mX8_owes 4 [.ref (g.2.2.2 + 0), .int a1, .int a2, .int a3] fd_X0 (fd_mx h hm) (some (.int r)) fd_X0 (fd_mx h hm) 0 0 := by
  refine fd_S.of (by decide +kernel) (Nat.le_of_ble_eq_true rfl) ?_
  unfold fX8_owes at hf
  refine fr_loc (lv' := [(0, .ref (g.2.2.2 + 0)), (1, .int a1), (2, .int a2), (3, .int a3)]) [0, 1, 2, 3] rfl ?_
  refine fr_iload_n (pc := 0) dX8_owes_0 1 rfl rfl ?_
  refine fr_bipush (pc := 1) (v := (6 : Int32)) dX8_owes_1 (by decide) ?_
  obtain ⟨r2, hc1, hf⟩ := fd_bi hf
  refine fr_callSz (pc := 3) (av := [.int a1, .int (6 : Int32)]) dX8_owes_3 yy_X8_isBelow kw_111 rfl rfl (Nat.le_of_ble_eq_true rfl) ⟨Nat.le_of_ble_eq_true rfl, Nat.le_of_ble_eq_true rfl, Nat.zero_le _, Nat.zero_le _⟩ (sX8_isBelow hc1) ?_
  refine fr_bz (pc := 6) 26 dX8_owes_6 (by decide) (fun c3 => ?_) (fun c3 => ?_)
  · have hf := fd_f c3 hf
    refine fr_bipush (pc := 26) (v := (-2 : Int32)) dX8_owes_26 (by decide) ?_
    exact fr_iretP (x := (-2 : Int32)) (pc := 28) dX8_owes_28 rfl hf
  · have hf := fd_t c3 hf
    refine fr_iload_n (pc := 9) dX8_owes_9 2 rfl rfl ?_
    refine fr_bipush (pc := 10) (v := (40 : Int32)) dX8_owes_10 (by decide) ?_
    obtain ⟨r5, hc4, hf⟩ := fd_bi hf
    refine fr_callSz (pc := 12) (av := [.int a2, .int (40 : Int32)]) dX8_owes_12 yy_X8_isBelow kw_111 rfl rfl (Nat.le_of_ble_eq_true rfl) ⟨Nat.le_of_ble_eq_true rfl, Nat.le_of_ble_eq_true rfl, Nat.zero_le _, Nat.zero_le _⟩ (sX8_isBelow hc4) ?_
    refine fr_bz (pc := 15) 26 dX8_owes_15 (by decide) (fun c6 => ?_) (fun c6 => ?_)
    · have hf := fd_f c6 hf
      refine fr_bipush (pc := 26) (v := (-2 : Int32)) dX8_owes_26 (by decide) ?_
      exact fr_iretP (x := (-2 : Int32)) (pc := 28) dX8_owes_28 rfl hf
    · have hf := fd_t c6 hf
      refine fr_iload_n (pc := 18) dX8_owes_18 3 rfl rfl ?_
      refine fr_iconst (pc := 19) (v := (2 : Int32)) dX8_owes_19 (by decide) ?_
      obtain ⟨r8, hc7, hf⟩ := fd_bi hf
      refine fr_callSz (pc := 20) (av := [.int a3, .int (2 : Int32)]) dX8_owes_20 yy_X8_isBelow kw_111 rfl rfl (Nat.le_of_ble_eq_true rfl) ⟨Nat.le_of_ble_eq_true rfl, Nat.le_of_ble_eq_true rfl, Nat.zero_le _, Nat.zero_le _⟩ (sX8_isBelow hc7) ?_
      refine fr_bn (pc := 23) 29 dX8_owes_23 (by decide) (fun c9 => ?_) (fun c9 => ?_)
      · have hf := fd_t c9 hf
        refine fr_aload_n (pc := 29) dX8_owes_29 0 rfl rfl ?_
        refine fr_iload_n (pc := 30) dX8_owes_30 1 rfl rfl ?_
        refine fr_iload_n (pc := 31) dX8_owes_31 2 rfl rfl ?_
        refine fr_iload_n (pc := 32) dX8_owes_32 3 rfl rfl ?_
        refine fr_if_ne (pc := 33) 40 dX8_owes_33 (by decide) (fun c10 => ?_) (fun c10 => ?_)
        · have hf := fd_f c10 hf
          refine fr_iconst (pc := 40) (v := (1 : Int32)) dX8_owes_40 (by decide) ?_
          refine fr_loc (lv' := []) [] rfl ?_
          exact sX8_owes_L41  _ hf
        · have hf := fd_t c10 hf
          refine fr_iconst (pc := 36) (v := (0 : Int32)) dX8_owes_36 (by decide) ?_
          refine fr_goto (pc := 37) 41 dX8_owes_37 (by decide) ?_
          refine fr_loc (lv' := []) [] rfl ?_
          exact sX8_owes_L41  _ hf
      · have hf := fd_f c9 hf
        refine fr_bipush (pc := 26) (v := (-2 : Int32)) dX8_owes_26 (by decide) ?_
        exact fr_iretP (x := (-2 : Int32)) (pc := 28) dX8_owes_28 rfl hf
theorem dX8_hangs_0 : decode cX8_hangs 0 = .ok (.iload_n 1, 1) := by decide +kernel
theorem dX8_hangs_1 : decode cX8_hangs 1 = .ok (.bipush 40, 2) := by decide +kernel
theorem dX8_hangs_3 : decode cX8_hangs 3 = .ok (.invokestatic 62, 3) := by decide +kernel
theorem dX8_hangs_6 : decode cX8_hangs 6 = .ok (.ifCond .ne 6, 3) := by decide +kernel
theorem dX8_hangs_9 : decode cX8_hangs 9 = .ok (.bipush (-2), 2) := by decide +kernel
theorem dX8_hangs_11 : decode cX8_hangs 11 = .ok (.ireturn, 1) := by decide +kernel
theorem dX8_hangs_12 : decode cX8_hangs 12 = .ok (.iconst 0, 1) := by decide +kernel
theorem dX8_hangs_13 : decode cX8_hangs 13 = .ok (.istore_n 2, 1) := by decide +kernel
theorem dX8_hangs_14 : decode cX8_hangs 14 = .ok (.iconst 0, 1) := by decide +kernel
theorem dX8_hangs_15 : decode cX8_hangs 15 = .ok (.istore_n 3, 1) := by decide +kernel
theorem dX8_hangs_16 : decode cX8_hangs 16 = .ok (.iload_n 3, 1) := by decide +kernel
theorem dX8_hangs_17 : decode cX8_hangs 17 = .ok (.bipush 6, 2) := by decide +kernel
theorem dX8_hangs_19 : decode cX8_hangs 19 = .ok (.if_icmp .ge 32, 3) := by decide +kernel
theorem dX8_hangs_22 : decode cX8_hangs 22 = .ok (.aload_n 0, 1) := by decide +kernel
theorem dX8_hangs_23 : decode cX8_hangs 23 = .ok (.iload_n 3, 1) := by decide +kernel
theorem dX8_hangs_24 : decode cX8_hangs 24 = .ok (.iload_n 1, 1) := by decide +kernel
theorem dX8_hangs_25 : decode cX8_hangs 25 = .ok (.iconst 0, 1) := by decide +kernel
theorem dX8_hangs_26 : decode cX8_hangs 26 = .ok (.invokevirtual 164, 3) := by decide +kernel
theorem dX8_hangs_29 : decode cX8_hangs 29 = .ok (.aload_n 0, 1) := by decide +kernel
theorem dX8_hangs_30 : decode cX8_hangs 30 = .ok (.iload_n 3, 1) := by decide +kernel
theorem dX8_hangs_31 : decode cX8_hangs 31 = .ok (.iload_n 1, 1) := by decide +kernel
theorem dX8_hangs_32 : decode cX8_hangs 32 = .ok (.iconst 1, 1) := by decide +kernel
theorem dX8_hangs_33 : decode cX8_hangs 33 = .ok (.invokevirtual 164, 3) := by decide +kernel
theorem dX8_hangs_36 : decode cX8_hangs 36 = .ok (.if_icmp .le 9, 3) := by decide +kernel
theorem dX8_hangs_39 : decode cX8_hangs 39 = .ok (.iload_n 2, 1) := by decide +kernel
theorem dX8_hangs_40 : decode cX8_hangs 40 = .ok (.iconst 1, 1) := by decide +kernel
theorem dX8_hangs_41 : decode cX8_hangs 41 = .ok (.iload_n 3, 1) := by decide +kernel
theorem dX8_hangs_42 : decode cX8_hangs 42 = .ok (.ishl, 1) := by decide +kernel
theorem dX8_hangs_43 : decode cX8_hangs 43 = .ok (.ior, 1) := by decide +kernel
theorem dX8_hangs_44 : decode cX8_hangs 44 = .ok (.istore_n 2, 1) := by decide +kernel
theorem dX8_hangs_45 : decode cX8_hangs 45 = .ok (.iinc 3 1, 3) := by decide +kernel
theorem dX8_hangs_48 : decode cX8_hangs 48 = .ok (.goto (-32), 3) := by decide +kernel
theorem dX8_hangs_51 : decode cX8_hangs 51 = .ok (.iload_n 2, 1) := by decide +kernel
theorem dX8_hangs_52 : decode cX8_hangs 52 = .ok (.ireturn, 1) := by decide +kernel
def fX8_hangs_L16 (a1 : Int32) (h : fd_H) : Nat → Int32 → Int32 → Option (Int32)
  | 0 => fun _ _ => none
  | n + 1 => fun v2 v3 =>
if (6 : Int32) ≤ v3 then (
some (v2))
else (
(fX8_sumOf v3 a1 (0 : Int32) h).bind fun r3 =>
(fX8_sumOf v3 a1 (1 : Int32) h).bind fun r5 =>
if r3 ≤ r5 then (
fX8_hangs_L16 a1 h n v2 (v3 + (1 : Int32)))
else (
fd_lt ((v2 ||| ((1 : Int32) <<< (v3 &&& 31)))) fun x7 =>
fX8_hangs_L16 a1 h n x7 (v3 + (1 : Int32))))
set_option maxRecDepth 100000 in
set_option maxHeartbeats 4000000 in
theorem sX8_hangs_L16 {g : fd_G} {hm : fd_H} {a1 : Int32} {h : fd_H} {r : Int32} : ∀ (n : Nat) (v2 : Int32) (v3 : Int32), fX8_hangs_L16 a1 h n v2 v3 = some r → fd_A g mX8_hangs fd_E (fd_rm 4 0 0) (fd_Q g (some (.int r)) fd_X0 (fd_mx h hm) 0 0) 16 [(0, .ref (g.2.2.2 + 0)), (1, .int a1), (2, .int v2), (3, .int v3)] [] fd_X0 (fd_mx h hm) 0 0 := by
  intro n
  induction n with
  | zero =>
    intro _ _ hf
    cases hf
  | succ n ih =>
    intro v2 v3 hf
    rw [fX8_hangs_L16] at hf
    refine fr_iload_n (pc := 16) dX8_hangs_16 3 rfl rfl ?_
    refine fr_bipush (pc := 17) (v := (6 : Int32)) dX8_hangs_17 (by decide) ?_
    refine fr_icmp_ge (pc := 19) 51 dX8_hangs_19 (by decide) (fun c1 => ?_) (fun c1 => ?_)
    · have hf := fd_t c1 hf
      refine fr_iload_n (pc := 51) dX8_hangs_51 2 rfl rfl ?_
      exact fr_iretP (x := v2) (pc := 52) dX8_hangs_52 rfl hf
    · have hf := fd_f c1 hf
      refine fr_aload_n (pc := 22) dX8_hangs_22 0 rfl rfl ?_
      refine fr_iload_n (pc := 23) dX8_hangs_23 3 rfl rfl ?_
      refine fr_iload_n (pc := 24) dX8_hangs_24 1 rfl rfl ?_
      refine fr_iconst (pc := 25) (v := (0 : Int32)) dX8_hangs_25 (by decide) ?_
      obtain ⟨r3, hc2, hf⟩ := fd_bi hf
      refine fr_callVi (pc := 26) (av := [.int v3, .int a1, .int (0 : Int32)]) dX8_hangs_26 yy_X8_sumOf kw_385 (by decide) rfl rfl rfl rfl (Nat.le_of_ble_eq_true rfl) ⟨Nat.le_of_ble_eq_true rfl, Nat.le_of_ble_eq_true rfl, Nat.zero_le _, Nat.zero_le _⟩ (sX8_sumOf hc2) ?_
      refine fr_aload_n (pc := 29) dX8_hangs_29 0 rfl rfl ?_
      refine fr_iload_n (pc := 30) dX8_hangs_30 3 rfl rfl ?_
      refine fr_iload_n (pc := 31) dX8_hangs_31 1 rfl rfl ?_
      refine fr_iconst (pc := 32) (v := (1 : Int32)) dX8_hangs_32 (by decide) ?_
      obtain ⟨r5, hc4, hf⟩ := fd_bi hf
      refine fr_callVi (pc := 33) (av := [.int v3, .int a1, .int (1 : Int32)]) dX8_hangs_33 yy_X8_sumOf kw_385 (by decide) rfl rfl rfl rfl (Nat.le_of_ble_eq_true rfl) ⟨Nat.le_of_ble_eq_true rfl, Nat.le_of_ble_eq_true rfl, Nat.zero_le _, Nat.zero_le _⟩ (sX8_sumOf hc4) ?_
      refine fr_icmp_le (pc := 36) 45 dX8_hangs_36 (by decide) (fun c6 => ?_) (fun c6 => ?_)
      · have hf := fd_t c6 hf
        refine fr_iinc (pc := 45) (v := (v3 + (1 : Int32))) (lv' := [(3, .int (v3 + (1 : Int32))), (0, .ref (g.2.2.2 + 0)), (1, .int a1), (2, .int v2)]) dX8_hangs_45 3 rfl rfl (by decide) rfl ?_
        refine fr_goto (pc := 48) 16 dX8_hangs_48 (by decide) ?_
        refine fr_loc (lv' := [(0, .ref (g.2.2.2 + 0)), (1, .int a1), (2, .int v2), (3, .int (v3 + (1 : Int32)))]) [1, 2, 3, 0] rfl ?_
        exact ih _ _ hf
      · have hf := fd_f c6 hf
        refine fr_iload_n (pc := 39) dX8_hangs_39 2 rfl rfl ?_
        refine fr_iconst (pc := 40) (v := (1 : Int32)) dX8_hangs_40 (by decide) ?_
        refine fr_iload_n (pc := 41) dX8_hangs_41 3 rfl rfl ?_
        refine fr_ishl (pc := 42) dX8_hangs_42 ?_
        refine fr_ior (pc := 43) dX8_hangs_43 ?_
        obtain ⟨x7, ex7, hf⟩ := fd_lt_e hf
        refine fr_nmi ex7 ?_
        refine fr_istore_n (pc := 44) (lv' := [(2, .int x7), (0, .ref (g.2.2.2 + 0)), (1, .int a1), (3, .int v3)]) dX8_hangs_44 rfl (by decide) rfl ?_
        refine fr_iinc (pc := 45) (v := (v3 + (1 : Int32))) (lv' := [(3, .int (v3 + (1 : Int32))), (2, .int x7), (0, .ref (g.2.2.2 + 0)), (1, .int a1)]) dX8_hangs_45 3 rfl rfl (by decide) rfl ?_
        refine fr_goto (pc := 48) 16 dX8_hangs_48 (by decide) ?_
        refine fr_loc (lv' := [(0, .ref (g.2.2.2 + 0)), (1, .int a1), (2, .int x7), (3, .int (v3 + (1 : Int32)))]) [2, 3, 1, 0] rfl ?_
        exact ih _ _ hf
def fX8_hangs (a1 : Int32) (h : fd_H) : Option (Int32) :=
(fX8_isBelow a1 (40 : Int32)).bind fun r2 =>
if r2 = true then (
fX8_hangs_L16 a1 h fd_fu (0 : Int32) (0 : Int32))
else (
some ((-2 : Int32)))
set_option maxRecDepth 100000 in
set_option maxHeartbeats 4000000 in
theorem sX8_hangs {g : fd_G} {hm : fd_H} {a1 : Int32} {h : fd_H} {r : Int32} (hf : fX8_hangs a1 h = some r) : fd_S g mX8_hangs 4 [.ref (g.2.2.2 + 0), .int a1] fd_X0 (fd_mx h hm) (some (.int r)) fd_X0 (fd_mx h hm) 0 0 := by
  refine fd_S.of (by decide +kernel) (Nat.le_of_ble_eq_true rfl) ?_
  unfold fX8_hangs at hf
  refine fr_loc (lv' := [(0, .ref (g.2.2.2 + 0)), (1, .int a1)]) [0, 1] rfl ?_
  refine fr_iload_n (pc := 0) dX8_hangs_0 1 rfl rfl ?_
  refine fr_bipush (pc := 1) (v := (40 : Int32)) dX8_hangs_1 (by decide) ?_
  obtain ⟨r2, hc1, hf⟩ := fd_bi hf
  refine fr_callSz (pc := 3) (av := [.int a1, .int (40 : Int32)]) dX8_hangs_3 yy_X8_isBelow kw_111 rfl rfl (Nat.le_of_ble_eq_true rfl) ⟨Nat.le_of_ble_eq_true rfl, Nat.le_of_ble_eq_true rfl, Nat.zero_le _, Nat.zero_le _⟩ (sX8_isBelow hc1) ?_
  refine fr_bn (pc := 6) 12 dX8_hangs_6 (by decide) (fun c3 => ?_) (fun c3 => ?_)
  · have hf := fd_t c3 hf
    refine fr_iconst (pc := 12) (v := (0 : Int32)) dX8_hangs_12 (by decide) ?_
    refine fr_istore_n (pc := 13) (lv' := [(2, .int (0 : Int32)), (0, .ref (g.2.2.2 + 0)), (1, .int a1)]) dX8_hangs_13 rfl (by decide) rfl ?_
    refine fr_iconst (pc := 14) (v := (0 : Int32)) dX8_hangs_14 (by decide) ?_
    refine fr_istore_n (pc := 15) (lv' := [(3, .int (0 : Int32)), (2, .int (0 : Int32)), (0, .ref (g.2.2.2 + 0)), (1, .int a1)]) dX8_hangs_15 rfl (by decide) rfl ?_
    refine fr_loc (lv' := [(0, .ref (g.2.2.2 + 0)), (1, .int a1), (2, .int (0 : Int32)), (3, .int (0 : Int32))]) [2, 3, 1, 0] rfl ?_
    exact sX8_hangs_L16 _  _ _ hf
  · have hf := fd_f c3 hf
    refine fr_bipush (pc := 9) (v := (-2 : Int32)) dX8_hangs_9 (by decide) ?_
    exact fr_iretP (x := (-2 : Int32)) (pc := 11) dX8_hangs_11 rfl hf
theorem dX8_free_0 : decode cX8_free 0 = .ok (.iload_n 1, 1) := by decide +kernel
theorem dX8_free_1 : decode cX8_free 1 = .ok (.bipush 6, 2) := by decide +kernel
theorem dX8_free_3 : decode cX8_free 3 = .ok (.invokestatic 62, 3) := by decide +kernel
theorem dX8_free_6 : decode cX8_free 6 = .ok (.ifCond .eq 12, 3) := by decide +kernel
theorem dX8_free_9 : decode cX8_free 9 = .ok (.iload_n 2, 1) := by decide +kernel
theorem dX8_free_10 : decode cX8_free 10 = .ok (.bipush 40, 2) := by decide +kernel
theorem dX8_free_12 : decode cX8_free 12 = .ok (.invokestatic 62, 3) := by decide +kernel
theorem dX8_free_15 : decode cX8_free 15 = .ok (.ifCond .ne 6, 3) := by decide +kernel
theorem dX8_free_18 : decode cX8_free 18 = .ok (.bipush (-2), 2) := by decide +kernel
theorem dX8_free_20 : decode cX8_free 20 = .ok (.ireturn, 1) := by decide +kernel
theorem dX8_free_21 : decode cX8_free 21 = .ok (.iload_n 2, 1) := by decide +kernel
theorem dX8_free_22 : decode cX8_free 22 = .ok (.istore_n 3, 1) := by decide +kernel
theorem dX8_free_23 : decode cX8_free 23 = .ok (.iconst 0, 1) := by decide +kernel
theorem dX8_free_24 : decode cX8_free 24 = .ok (.istore 4, 2) := by decide +kernel
theorem dX8_free_26 : decode cX8_free 26 = .ok (.iload 4, 2) := by decide +kernel
theorem dX8_free_28 : decode cX8_free 28 = .ok (.aload_n 0, 1) := by decide +kernel
theorem dX8_free_29 : decode cX8_free 29 = .ok (.getfield 33, 3) := by decide +kernel
theorem dX8_free_32 : decode cX8_free 32 = .ok (.getfield 104, 3) := by decide +kernel
theorem dX8_free_35 : decode cX8_free 35 = .ok (.if_icmp .ge 64, 3) := by decide +kernel
theorem dX8_free_38 : decode cX8_free 38 = .ok (.aload_n 0, 1) := by decide +kernel
theorem dX8_free_39 : decode cX8_free 39 = .ok (.iload 4, 2) := by decide +kernel
theorem dX8_free_41 : decode cX8_free 41 = .ok (.aload_n 0, 1) := by decide +kernel
theorem dX8_free_42 : decode cX8_free 42 = .ok (.getfield 33, 3) := by decide +kernel
theorem dX8_free_45 : decode cX8_free 45 = .ok (.iload 4, 2) := by decide +kernel
theorem dX8_free_47 : decode cX8_free 47 = .ok (.iconst 3, 1) := by decide +kernel
theorem dX8_free_48 : decode cX8_free 48 = .ok (.invokevirtual 107, 3) := by decide +kernel
theorem dX8_free_51 : decode cX8_free 51 = .ok (.invokevirtual 158, 3) := by decide +kernel
theorem dX8_free_54 : decode cX8_free 54 = .ok (.istore 5, 2) := by decide +kernel
theorem dX8_free_56 : decode cX8_free 56 = .ok (.aload_n 0, 1) := by decide +kernel
theorem dX8_free_57 : decode cX8_free 57 = .ok (.getfield 33, 3) := by decide +kernel
theorem dX8_free_60 : decode cX8_free 60 = .ok (.iload 4, 2) := by decide +kernel
theorem dX8_free_62 : decode cX8_free 62 = .ok (.iconst 0, 1) := by decide +kernel
theorem dX8_free_63 : decode cX8_free 63 = .ok (.invokevirtual 107, 3) := by decide +kernel
theorem dX8_free_66 : decode cX8_free 66 = .ok (.iload_n 1, 1) := by decide +kernel
theorem dX8_free_67 : decode cX8_free 67 = .ok (.if_icmp .ne 26, 3) := by decide +kernel
theorem dX8_free_70 : decode cX8_free 70 = .ok (.iload 5, 2) := by decide +kernel
theorem dX8_free_72 : decode cX8_free 72 = .ok (.ifCond .le 21, 3) := by decide +kernel
theorem dX8_free_75 : decode cX8_free 75 = .ok (.iload_n 3, 1) := by decide +kernel
theorem dX8_free_76 : decode cX8_free 76 = .ok (.aload_n 0, 1) := by decide +kernel
theorem dX8_free_77 : decode cX8_free 77 = .ok (.getfield 33, 3) := by decide +kernel
theorem dX8_free_80 : decode cX8_free 80 = .ok (.iload 4, 2) := by decide +kernel
theorem dX8_free_82 : decode cX8_free 82 = .ok (.iconst 4, 1) := by decide +kernel
theorem dX8_free_83 : decode cX8_free 83 = .ok (.invokevirtual 107, 3) := by decide +kernel
theorem dX8_free_86 : decode cX8_free 86 = .ok (.iload 5, 2) := by decide +kernel
theorem dX8_free_88 : decode cX8_free 88 = .ok (.iadd, 1) := by decide +kernel
theorem dX8_free_89 : decode cX8_free 89 = .ok (.invokestatic 168, 3) := by decide +kernel
theorem dX8_free_92 : decode cX8_free 92 = .ok (.istore_n 3, 1) := by decide +kernel
theorem dX8_free_93 : decode cX8_free 93 = .ok (.iinc 4 1, 3) := by decide +kernel
theorem dX8_free_96 : decode cX8_free 96 = .ok (.goto (-70), 3) := by decide +kernel
theorem dX8_free_99 : decode cX8_free 99 = .ok (.iload_n 3, 1) := by decide +kernel
theorem dX8_free_100 : decode cX8_free 100 = .ok (.bipush 40, 2) := by decide +kernel
theorem dX8_free_102 : decode cX8_free 102 = .ok (.if_icmp .ge 7, 3) := by decide +kernel
theorem dX8_free_105 : decode cX8_free 105 = .ok (.iload_n 3, 1) := by decide +kernel
theorem dX8_free_106 : decode cX8_free 106 = .ok (.goto 4, 3) := by decide +kernel
theorem dX8_free_109 : decode cX8_free 109 = .ok (.iconst (-1), 1) := by decide +kernel
theorem dX8_free_110 : decode cX8_free 110 = .ok (.ireturn, 1) := by decide +kernel
def fX8_free_L26 (a1 : Int32) (a2 : Int32) (h : fd_H) : Nat → Int32 → Int32 → Option (Int32)
  | 0 => fun _ _ => none
  | n + 1 => fun v3 v4 =>
if (h.1 48 1) ≤ v4 then (
if (40 : Int32) ≤ v3 then (
some ((-1 : Int32)))
else (
some (v3)))
else (
(fX0_fact v4 (3 : Int32) h).bind fun r4 =>
(fX8_nightsStood v4 r4 h).bind fun r6 =>
(fX0_fact v4 (0 : Int32) h).bind fun r8 =>
if r8 = a1 then (
if r6 ≤ 0 then (
fX8_free_L26 a1 a2 h n v3 (v4 + (1 : Int32)))
else (
(fX0_fact v4 (4 : Int32) h).bind fun r12 =>
fd_lt ((fd_max v3 (r12 + r6))) fun x13 =>
fX8_free_L26 a1 a2 h n x13 (v4 + (1 : Int32))))
else (
fX8_free_L26 a1 a2 h n v3 (v4 + (1 : Int32))))
set_option maxRecDepth 100000 in
set_option maxHeartbeats 4000000 in
theorem sX8_free_L26 {g : fd_G} {hm : fd_H} {a1 : Int32} {a2 : Int32} {h : fd_H} {r : Int32} : ∀ (n : Nat) (v3 : Int32) (v4 : Int32), fX8_free_L26 a1 a2 h n v3 v4 = some r → fd_A g mX8_free fd_E (fd_rm 4 0 0) (fd_Q g (some (.int r)) fd_X0 (fd_mx h hm) 0 0) 26 [(0, .ref (g.2.2.2 + 0)), (1, .int a1), (3, .int v3), (4, .int v4)] [] fd_X0 (fd_mx h hm) 0 0 := by
  intro n
  induction n with
  | zero =>
    intro _ _ hf
    cases hf
  | succ n ih =>
    intro v3 v4 hf
    rw [fX8_free_L26] at hf
    refine fr_iload (pc := 26) dX8_free_26 3 rfl ?_
    refine fr_aload_n (pc := 28) dX8_free_28 0 rfl rfl ?_
    refine fr_getR (pc := 29) dX8_free_29 fl_X8_33 (by decide) rfl rfl ?_
    refine vx_getI (pc := 32) dX8_free_32 fl_X8_104 (by decide) (by decide) rfl rfl ?_
    refine fr_icmp_ge (pc := 35) 99 dX8_free_35 (by decide) (fun c1 => ?_) (fun c1 => ?_)
    · have hf := fd_t c1 hf
      refine fr_iload_n (pc := 99) dX8_free_99 2 rfl rfl ?_
      refine fr_bipush (pc := 100) (v := (40 : Int32)) dX8_free_100 (by decide) ?_
      refine fr_icmp_ge (pc := 102) 109 dX8_free_102 (by decide) (fun c2 => ?_) (fun c2 => ?_)
      · have hf := fd_t c2 hf
        refine fr_iconst (pc := 109) (v := (-1 : Int32)) dX8_free_109 (by decide) ?_
        exact fr_iretP (x := (-1 : Int32)) (pc := 110) dX8_free_110 rfl hf
      · have hf := fd_f c2 hf
        refine fr_iload_n (pc := 105) dX8_free_105 2 rfl rfl ?_
        refine fr_goto (pc := 106) 110 dX8_free_106 (by decide) ?_
        exact fr_iretP (x := v3) (pc := 110) dX8_free_110 rfl hf
    · have hf := fd_f c1 hf
      refine fr_aload_n (pc := 38) dX8_free_38 0 rfl rfl ?_
      refine fr_iload (pc := 39) dX8_free_39 3 rfl ?_
      refine fr_aload_n (pc := 41) dX8_free_41 0 rfl rfl ?_
      refine fr_getR (pc := 42) dX8_free_42 fl_X8_33 (by decide) rfl rfl ?_
      refine fr_iload (pc := 45) dX8_free_45 3 rfl ?_
      refine fr_iconst (pc := 47) (v := (3 : Int32)) dX8_free_47 (by decide) ?_
      obtain ⟨r4, hc3, hf⟩ := fd_bi hf
      refine fr_callVi (pc := 48) (av := [.int v4, .int (3 : Int32)]) dX8_free_48 yy_X0_fact kw_195 (by decide) rfl rfl rfl rfl (Nat.le_of_ble_eq_true rfl) ⟨Nat.le_of_ble_eq_true rfl, Nat.le_of_ble_eq_true rfl, Nat.zero_le _, Nat.zero_le _⟩ (sX0_fact hc3) ?_
      obtain ⟨r6, hc5, hf⟩ := fd_bi hf
      refine fr_callVi (pc := 51) (av := [.int v4, .int r4]) dX8_free_51 yy_X8_nightsStood kw_381 (by decide) rfl rfl rfl rfl (Nat.le_of_ble_eq_true rfl) ⟨Nat.le_of_ble_eq_true rfl, Nat.le_of_ble_eq_true rfl, Nat.zero_le _, Nat.zero_le _⟩ (sX8_nightsStood hc5) ?_
      refine fr_istore (pc := 54) (lv' := [(5, .int r6), (0, .ref (g.2.2.2 + 0)), (1, .int a1), (3, .int v3), (4, .int v4)]) dX8_free_54 (by decide) rfl ?_
      refine fr_aload_n (pc := 56) dX8_free_56 1 rfl rfl ?_
      refine fr_getR (pc := 57) dX8_free_57 fl_X8_33 (by decide) rfl rfl ?_
      refine fr_iload (pc := 60) dX8_free_60 4 rfl ?_
      refine fr_iconst (pc := 62) (v := (0 : Int32)) dX8_free_62 (by decide) ?_
      obtain ⟨r8, hc7, hf⟩ := fd_bi hf
      refine fr_callVi (pc := 63) (av := [.int v4, .int (0 : Int32)]) dX8_free_63 yy_X0_fact kw_195 (by decide) rfl rfl rfl rfl (Nat.le_of_ble_eq_true rfl) ⟨Nat.le_of_ble_eq_true rfl, Nat.le_of_ble_eq_true rfl, Nat.zero_le _, Nat.zero_le _⟩ (sX0_fact hc7) ?_
      refine fr_iload_n (pc := 66) dX8_free_66 2 rfl rfl ?_
      refine fr_icmp_ne (pc := 67) 93 dX8_free_67 (by decide) (fun c9 => ?_) (fun c9 => ?_)
      · have hf := fd_f c9 hf
        refine fr_iinc (pc := 93) (v := (v4 + (1 : Int32))) (lv' := [(4, .int (v4 + (1 : Int32))), (5, .int r6), (0, .ref (g.2.2.2 + 0)), (1, .int a1), (3, .int v3)]) dX8_free_93 4 rfl rfl (by decide) rfl ?_
        refine fr_goto (pc := 96) 26 dX8_free_96 (by decide) ?_
        refine fr_loc (lv' := [(0, .ref (g.2.2.2 + 0)), (1, .int a1), (3, .int v3), (4, .int (v4 + (1 : Int32)))]) [2, 3, 4, 0] rfl ?_
        exact ih _ _ hf
      · have hf := fd_t c9 hf
        refine fr_iload (pc := 70) dX8_free_70 0 rfl ?_
        refine fr_if_le (pc := 72) 93 dX8_free_72 (by decide) (fun c10 => ?_) (fun c10 => ?_)
        · have hf := fd_t c10 hf
          refine fr_iinc (pc := 93) (v := (v4 + (1 : Int32))) (lv' := [(4, .int (v4 + (1 : Int32))), (5, .int r6), (0, .ref (g.2.2.2 + 0)), (1, .int a1), (3, .int v3)]) dX8_free_93 4 rfl rfl (by decide) rfl ?_
          refine fr_goto (pc := 96) 26 dX8_free_96 (by decide) ?_
          refine fr_loc (lv' := [(0, .ref (g.2.2.2 + 0)), (1, .int a1), (3, .int v3), (4, .int (v4 + (1 : Int32)))]) [2, 3, 4, 0] rfl ?_
          exact ih _ _ hf
        · have hf := fd_f c10 hf
          refine fr_iload_n (pc := 75) dX8_free_75 3 rfl rfl ?_
          refine fr_aload_n (pc := 76) dX8_free_76 1 rfl rfl ?_
          refine fr_getR (pc := 77) dX8_free_77 fl_X8_33 (by decide) rfl rfl ?_
          refine fr_iload (pc := 80) dX8_free_80 4 rfl ?_
          refine fr_iconst (pc := 82) (v := (4 : Int32)) dX8_free_82 (by decide) ?_
          obtain ⟨r12, hc11, hf⟩ := fd_bi hf
          refine fr_callVi (pc := 83) (av := [.int v4, .int (4 : Int32)]) dX8_free_83 yy_X0_fact kw_195 (by decide) rfl rfl rfl rfl (Nat.le_of_ble_eq_true rfl) ⟨Nat.le_of_ble_eq_true rfl, Nat.le_of_ble_eq_true rfl, Nat.zero_le _, Nat.zero_le _⟩ (sX0_fact hc11) ?_
          refine fr_iload (pc := 86) dX8_free_86 0 rfl ?_
          refine fr_iadd (pc := 88) dX8_free_88 ?_
          refine fr_max (pc := 89) dX8_free_89 kw_340 (Nat.le_of_ble_eq_true rfl) (Nat.le_of_ble_eq_true rfl) (Nat.zero_le _) (Nat.zero_le _) ?_
          obtain ⟨x13, ex13, hf⟩ := fd_lt_e hf
          refine fr_nmi ex13 ?_
          refine fr_istore_n (pc := 92) (lv' := [(3, .int x13), (5, .int r6), (0, .ref (g.2.2.2 + 0)), (1, .int a1), (4, .int v4)]) dX8_free_92 rfl (by decide) rfl ?_
          refine fr_iinc (pc := 93) (v := (v4 + (1 : Int32))) (lv' := [(4, .int (v4 + (1 : Int32))), (3, .int x13), (5, .int r6), (0, .ref (g.2.2.2 + 0)), (1, .int a1)]) dX8_free_93 4 rfl rfl (by decide) rfl ?_
          refine fr_goto (pc := 96) 26 dX8_free_96 (by decide) ?_
          refine fr_loc (lv' := [(0, .ref (g.2.2.2 + 0)), (1, .int a1), (3, .int x13), (4, .int (v4 + (1 : Int32)))]) [3, 4, 1, 0] rfl ?_
          exact ih _ _ hf
def fX8_free (a1 : Int32) (a2 : Int32) (h : fd_H) : Option (Int32) :=
(fX8_isBelow a1 (6 : Int32)).bind fun r2 =>
if r2 = true then (
(fX8_isBelow a2 (40 : Int32)).bind fun r5 =>
if r5 = true then (
fX8_free_L26 a1 a2 h fd_fu a2 (0 : Int32))
else (
some ((-2 : Int32))))
else (
some ((-2 : Int32)))
set_option maxRecDepth 100000 in
set_option maxHeartbeats 4000000 in
theorem sX8_free {g : fd_G} {hm : fd_H} {a1 : Int32} {a2 : Int32} {h : fd_H} {r : Int32} (hf : fX8_free a1 a2 h = some r) : fd_S g mX8_free 4 [.ref (g.2.2.2 + 0), .int a1, .int a2] fd_X0 (fd_mx h hm) (some (.int r)) fd_X0 (fd_mx h hm) 0 0 := by
  refine fd_S.of (by decide +kernel) (Nat.le_of_ble_eq_true rfl) ?_
  unfold fX8_free at hf
  refine fr_loc (lv' := [(0, .ref (g.2.2.2 + 0)), (1, .int a1), (2, .int a2)]) [0, 1, 2] rfl ?_
  refine fr_iload_n (pc := 0) dX8_free_0 1 rfl rfl ?_
  refine fr_bipush (pc := 1) (v := (6 : Int32)) dX8_free_1 (by decide) ?_
  obtain ⟨r2, hc1, hf⟩ := fd_bi hf
  refine fr_callSz (pc := 3) (av := [.int a1, .int (6 : Int32)]) dX8_free_3 yy_X8_isBelow kw_111 rfl rfl (Nat.le_of_ble_eq_true rfl) ⟨Nat.le_of_ble_eq_true rfl, Nat.le_of_ble_eq_true rfl, Nat.zero_le _, Nat.zero_le _⟩ (sX8_isBelow hc1) ?_
  refine fr_bz (pc := 6) 18 dX8_free_6 (by decide) (fun c3 => ?_) (fun c3 => ?_)
  · have hf := fd_f c3 hf
    refine fr_bipush (pc := 18) (v := (-2 : Int32)) dX8_free_18 (by decide) ?_
    exact fr_iretP (x := (-2 : Int32)) (pc := 20) dX8_free_20 rfl hf
  · have hf := fd_t c3 hf
    refine fr_iload_n (pc := 9) dX8_free_9 2 rfl rfl ?_
    refine fr_bipush (pc := 10) (v := (40 : Int32)) dX8_free_10 (by decide) ?_
    obtain ⟨r5, hc4, hf⟩ := fd_bi hf
    refine fr_callSz (pc := 12) (av := [.int a2, .int (40 : Int32)]) dX8_free_12 yy_X8_isBelow kw_111 rfl rfl (Nat.le_of_ble_eq_true rfl) ⟨Nat.le_of_ble_eq_true rfl, Nat.le_of_ble_eq_true rfl, Nat.zero_le _, Nat.zero_le _⟩ (sX8_isBelow hc4) ?_
    refine fr_bn (pc := 15) 21 dX8_free_15 (by decide) (fun c6 => ?_) (fun c6 => ?_)
    · have hf := fd_t c6 hf
      refine fr_iload_n (pc := 21) dX8_free_21 2 rfl rfl ?_
      refine fr_istore_n (pc := 22) (lv' := [(3, .int a2), (0, .ref (g.2.2.2 + 0)), (1, .int a1), (2, .int a2)]) dX8_free_22 rfl (by decide) rfl ?_
      refine fr_iconst (pc := 23) (v := (0 : Int32)) dX8_free_23 (by decide) ?_
      refine fr_istore (pc := 24) (lv' := [(4, .int (0 : Int32)), (3, .int a2), (0, .ref (g.2.2.2 + 0)), (1, .int a1), (2, .int a2)]) dX8_free_24 (by decide) rfl ?_
      refine fr_loc (lv' := [(0, .ref (g.2.2.2 + 0)), (1, .int a1), (3, .int a2), (4, .int (0 : Int32))]) [2, 3, 1, 0] rfl ?_
      exact sX8_free_L26 _  _ _ hf
    · have hf := fd_f c6 hf
      refine fr_bipush (pc := 18) (v := (-2 : Int32)) dX8_free_18 (by decide) ?_
      exact fr_iretP (x := (-2 : Int32)) (pc := 20) dX8_free_20 rfl hf
theorem dX8_where_0 : decode cX8_where 0 = .ok (.iload_n 1, 1) := by decide +kernel
theorem dX8_where_1 : decode cX8_where 1 = .ok (.aload_n 0, 1) := by decide +kernel
theorem dX8_where_2 : decode cX8_where 2 = .ok (.getfield 33, 3) := by decide +kernel
theorem dX8_where_5 : decode cX8_where 5 = .ok (.getfield 104, 3) := by decide +kernel
theorem dX8_where_8 : decode cX8_where 8 = .ok (.invokestatic 62, 3) := by decide +kernel
theorem dX8_where_11 : decode cX8_where 11 = .ok (.ifCond .eq 19, 3) := by decide +kernel
theorem dX8_where_14 : decode cX8_where 14 = .ok (.iload_n 2, 1) := by decide +kernel
theorem dX8_where_15 : decode cX8_where 15 = .ok (.iconst 2, 1) := by decide +kernel
theorem dX8_where_16 : decode cX8_where 16 = .ok (.invokestatic 62, 3) := by decide +kernel
theorem dX8_where_19 : decode cX8_where 19 = .ok (.ifCond .eq 11, 3) := by decide +kernel
theorem dX8_where_22 : decode cX8_where 22 = .ok (.iload_n 3, 1) := by decide +kernel
theorem dX8_where_23 : decode cX8_where 23 = .ok (.iconst 2, 1) := by decide +kernel
theorem dX8_where_24 : decode cX8_where 24 = .ok (.invokestatic 62, 3) := by decide +kernel
theorem dX8_where_27 : decode cX8_where 27 = .ok (.ifCond .ne 6, 3) := by decide +kernel
theorem dX8_where_30 : decode cX8_where 30 = .ok (.bipush (-2), 2) := by decide +kernel
theorem dX8_where_32 : decode cX8_where 32 = .ok (.ireturn, 1) := by decide +kernel
theorem dX8_where_33 : decode cX8_where 33 = .ok (.iconst (-1), 1) := by decide +kernel
theorem dX8_where_34 : decode cX8_where 34 = .ok (.istore 4, 2) := by decide +kernel
theorem dX8_where_36 : decode cX8_where 36 = .ok (.iconst (-1), 1) := by decide +kernel
theorem dX8_where_37 : decode cX8_where 37 = .ok (.istore 5, 2) := by decide +kernel
theorem dX8_where_39 : decode cX8_where 39 = .ok (.iconst 0, 1) := by decide +kernel
theorem dX8_where_40 : decode cX8_where 40 = .ok (.istore 6, 2) := by decide +kernel
theorem dX8_where_42 : decode cX8_where 42 = .ok (.iload 6, 2) := by decide +kernel
theorem dX8_where_44 : decode cX8_where 44 = .ok (.aload_n 0, 1) := by decide +kernel
theorem dX8_where_45 : decode cX8_where 45 = .ok (.getfield 29, 3) := by decide +kernel
theorem dX8_where_48 : decode cX8_where 48 = .ok (.getfield 150, 3) := by decide +kernel
theorem dX8_where_51 : decode cX8_where 51 = .ok (.if_icmp .ge 53, 3) := by decide +kernel
theorem dX8_where_54 : decode cX8_where 54 = .ok (.aload_n 0, 1) := by decide +kernel
theorem dX8_where_55 : decode cX8_where 55 = .ok (.iload_n 1, 1) := by decide +kernel
theorem dX8_where_56 : decode cX8_where 56 = .ok (.iload 6, 2) := by decide +kernel
theorem dX8_where_58 : decode cX8_where 58 = .ok (.invokevirtual 158, 3) := by decide +kernel
theorem dX8_where_61 : decode cX8_where 61 = .ok (.istore 7, 2) := by decide +kernel
theorem dX8_where_63 : decode cX8_where 63 = .ok (.iload 4, 2) := by decide +kernel
theorem dX8_where_65 : decode cX8_where 65 = .ok (.iconst (-1), 1) := by decide +kernel
theorem dX8_where_66 : decode cX8_where 66 = .ok (.if_icmp .eq 24, 3) := by decide +kernel
theorem dX8_where_69 : decode cX8_where 69 = .ok (.iload_n 2, 1) := by decide +kernel
theorem dX8_where_70 : decode cX8_where 70 = .ok (.ifCond .ne 13, 3) := by decide +kernel
theorem dX8_where_73 : decode cX8_where 73 = .ok (.iload 7, 2) := by decide +kernel
theorem dX8_where_75 : decode cX8_where 75 = .ok (.iload 5, 2) := by decide +kernel
theorem dX8_where_77 : decode cX8_where 77 = .ok (.if_icmp .ge 21, 3) := by decide +kernel
theorem dX8_where_80 : decode cX8_where 80 = .ok (.goto 10, 3) := by decide +kernel
theorem dX8_where_83 : decode cX8_where 83 = .ok (.iload 7, 2) := by decide +kernel
theorem dX8_where_85 : decode cX8_where 85 = .ok (.iload 5, 2) := by decide +kernel
theorem dX8_where_87 : decode cX8_where 87 = .ok (.if_icmp .le 11, 3) := by decide +kernel
theorem dX8_where_90 : decode cX8_where 90 = .ok (.iload 6, 2) := by decide +kernel
theorem dX8_where_92 : decode cX8_where 92 = .ok (.istore 4, 2) := by decide +kernel
theorem dX8_where_94 : decode cX8_where 94 = .ok (.iload 7, 2) := by decide +kernel
theorem dX8_where_96 : decode cX8_where 96 = .ok (.istore 5, 2) := by decide +kernel
theorem dX8_where_98 : decode cX8_where 98 = .ok (.iinc 6 1, 3) := by decide +kernel
theorem dX8_where_101 : decode cX8_where 101 = .ok (.goto (-59), 3) := by decide +kernel
theorem dX8_where_104 : decode cX8_where 104 = .ok (.iload_n 3, 1) := by decide +kernel
theorem dX8_where_105 : decode cX8_where 105 = .ok (.ifCond .ne 8, 3) := by decide +kernel
theorem dX8_where_108 : decode cX8_where 108 = .ok (.iload 4, 2) := by decide +kernel
theorem dX8_where_110 : decode cX8_where 110 = .ok (.goto 5, 3) := by decide +kernel
theorem dX8_where_113 : decode cX8_where 113 = .ok (.iload 5, 2) := by decide +kernel
theorem dX8_where_115 : decode cX8_where 115 = .ok (.ireturn, 1) := by decide +kernel
def fX8_where_L90 (a1 : Int32) (a2 : Int32) (a3 : Int32) (h : fd_H) (K42 : Int32 → Int32 → Int32 → Option (Int32)) (v6 : Int32) (v7 : Int32) : Option (Int32) :=
K42 v6 v7 (v6 + (1 : Int32))
set_option maxRecDepth 100000 in
set_option maxHeartbeats 4000000 in
theorem sX8_where_L90 {g : fd_G} {hm : fd_H} {a1 : Int32} {a2 : Int32} {a3 : Int32} {h : fd_H} {r : Int32} {K42 : Int32 → Int32 → Int32 → Option (Int32)} (hK42 : ∀ (v4 : Int32) (v5 : Int32) (v6 : Int32), K42 v4 v5 v6 = some r → fd_A g mX8_where fd_E (fd_rm 4 0 0) (fd_Q g (some (.int r)) fd_X0 (fd_mx h hm) 0 0) 42 [(0, .ref (g.2.2.2 + 0)), (1, .int a1), (2, .int a2), (3, .int a3), (4, .int v4), (5, .int v5), (6, .int v6)] [] fd_X0 (fd_mx h hm) 0 0) : ∀ (v6 : Int32) (v7 : Int32), fX8_where_L90 a1 a2 a3 h K42 v6 v7 = some r → fd_A g mX8_where fd_E (fd_rm 4 0 0) (fd_Q g (some (.int r)) fd_X0 (fd_mx h hm) 0 0) 90 [(0, .ref (g.2.2.2 + 0)), (1, .int a1), (2, .int a2), (3, .int a3), (6, .int v6), (7, .int v7)] [] fd_X0 (fd_mx h hm) 0 0 := by
  intro v6 v7 hf
  unfold fX8_where_L90 at hf
  refine fr_iload (pc := 90) dX8_where_90 4 rfl ?_
  refine fr_istore (pc := 92) (lv' := [(4, .int v6), (0, .ref (g.2.2.2 + 0)), (1, .int a1), (2, .int a2), (3, .int a3), (6, .int v6), (7, .int v7)]) dX8_where_92 (by decide) rfl ?_
  refine fr_iload (pc := 94) dX8_where_94 6 rfl ?_
  refine fr_istore (pc := 96) (lv' := [(5, .int v7), (4, .int v6), (0, .ref (g.2.2.2 + 0)), (1, .int a1), (2, .int a2), (3, .int a3), (6, .int v6), (7, .int v7)]) dX8_where_96 (by decide) rfl ?_
  refine fr_iinc (pc := 98) (v := (v6 + (1 : Int32))) (lv' := [(6, .int (v6 + (1 : Int32))), (5, .int v7), (4, .int v6), (0, .ref (g.2.2.2 + 0)), (1, .int a1), (2, .int a2), (3, .int a3), (7, .int v7)]) dX8_where_98 6 rfl rfl (by decide) rfl ?_
  refine fr_goto (pc := 101) 42 dX8_where_101 (by decide) ?_
  refine fr_loc (lv' := [(0, .ref (g.2.2.2 + 0)), (1, .int a1), (2, .int a2), (3, .int a3), (4, .int v6), (5, .int v7), (6, .int (v6 + (1 : Int32)))]) [3, 4, 5, 6, 2, 1, 0] rfl ?_
  exact hK42 _ _ _ hf
def fX8_where_L42 (a1 : Int32) (a2 : Int32) (a3 : Int32) (h : fd_H) : Nat → Int32 → Int32 → Int32 → Option (Int32)
  | 0 => fun _ _ _ => none
  | n + 1 => fun v4 v5 v6 =>
if (h.1 12 3) ≤ v6 then (
if a3 = 0 then (
some (v4))
else (
some (v5)))
else (
(fX8_nightsStood a1 v6 h).bind fun r4 =>
if v4 = (-1 : Int32) then (
fX8_where_L90 a1 a2 a3 h (fX8_where_L42 a1 a2 a3 h n) v6 r4)
else (
if a2 = 0 then (
if v5 ≤ r4 then (
fX8_where_L42 a1 a2 a3 h n v4 v5 (v6 + (1 : Int32)))
else (
fX8_where_L90 a1 a2 a3 h (fX8_where_L42 a1 a2 a3 h n) v6 r4))
else (
if r4 ≤ v5 then (
fX8_where_L42 a1 a2 a3 h n v4 v5 (v6 + (1 : Int32)))
else (
fX8_where_L90 a1 a2 a3 h (fX8_where_L42 a1 a2 a3 h n) v6 r4))))
set_option maxRecDepth 100000 in
set_option maxHeartbeats 4000000 in
theorem sX8_where_L42 {g : fd_G} {hm : fd_H} {a1 : Int32} {a2 : Int32} {a3 : Int32} {h : fd_H} {r : Int32} : ∀ (n : Nat) (v4 : Int32) (v5 : Int32) (v6 : Int32), fX8_where_L42 a1 a2 a3 h n v4 v5 v6 = some r → fd_A g mX8_where fd_E (fd_rm 4 0 0) (fd_Q g (some (.int r)) fd_X0 (fd_mx h hm) 0 0) 42 [(0, .ref (g.2.2.2 + 0)), (1, .int a1), (2, .int a2), (3, .int a3), (4, .int v4), (5, .int v5), (6, .int v6)] [] fd_X0 (fd_mx h hm) 0 0 := by
  intro n
  induction n with
  | zero =>
    intro _ _ _ hf
    cases hf
  | succ n ih =>
    intro v4 v5 v6 hf
    rw [fX8_where_L42] at hf
    refine fr_iload (pc := 42) dX8_where_42 6 rfl ?_
    refine fr_aload_n (pc := 44) dX8_where_44 0 rfl rfl ?_
    refine fr_getR (pc := 45) dX8_where_45 fl_X8_29 (by decide) rfl rfl ?_
    refine vx_getI (pc := 48) dX8_where_48 fl_X8_150 (by decide) (by decide) rfl rfl ?_
    refine fr_icmp_ge (pc := 51) 104 dX8_where_51 (by decide) (fun c1 => ?_) (fun c1 => ?_)
    · have hf := fd_t c1 hf
      refine fr_iload_n (pc := 104) dX8_where_104 3 rfl rfl ?_
      refine fr_if_ne (pc := 105) 113 dX8_where_105 (by decide) (fun c2 => ?_) (fun c2 => ?_)
      · have hf := fd_f c2 hf
        refine fr_iload (pc := 113) dX8_where_113 5 rfl ?_
        exact fr_iretP (x := v5) (pc := 115) dX8_where_115 rfl hf
      · have hf := fd_t c2 hf
        refine fr_iload (pc := 108) dX8_where_108 4 rfl ?_
        refine fr_goto (pc := 110) 115 dX8_where_110 (by decide) ?_
        exact fr_iretP (x := v4) (pc := 115) dX8_where_115 rfl hf
    · have hf := fd_f c1 hf
      refine fr_aload_n (pc := 54) dX8_where_54 0 rfl rfl ?_
      refine fr_iload_n (pc := 55) dX8_where_55 1 rfl rfl ?_
      refine fr_iload (pc := 56) dX8_where_56 6 rfl ?_
      obtain ⟨r4, hc3, hf⟩ := fd_bi hf
      refine fr_callVi (pc := 58) (av := [.int a1, .int v6]) dX8_where_58 yy_X8_nightsStood kw_381 (by decide) rfl rfl rfl rfl (Nat.le_of_ble_eq_true rfl) ⟨Nat.le_of_ble_eq_true rfl, Nat.le_of_ble_eq_true rfl, Nat.zero_le _, Nat.zero_le _⟩ (sX8_nightsStood hc3) ?_
      refine fr_istore (pc := 61) (lv' := [(7, .int r4), (0, .ref (g.2.2.2 + 0)), (1, .int a1), (2, .int a2), (3, .int a3), (4, .int v4), (5, .int v5), (6, .int v6)]) dX8_where_61 (by decide) rfl ?_
      refine fr_iload (pc := 63) dX8_where_63 5 rfl ?_
      refine fr_iconst (pc := 65) (v := (-1 : Int32)) dX8_where_65 (by decide) ?_
      refine fr_icmp_eq (pc := 66) 90 dX8_where_66 (by decide) (fun c5 => ?_) (fun c5 => ?_)
      · have hf := fd_t c5 hf
        refine fr_loc (lv' := [(0, .ref (g.2.2.2 + 0)), (1, .int a1), (2, .int a2), (3, .int a3), (6, .int v6), (7, .int r4)]) [1, 2, 3, 4, 7, 0] rfl ?_
        exact sX8_where_L90 ih  _ _ hf
      · have hf := fd_f c5 hf
        refine fr_iload_n (pc := 69) dX8_where_69 3 rfl rfl ?_
        refine fr_if_ne (pc := 70) 83 dX8_where_70 (by decide) (fun c6 => ?_) (fun c6 => ?_)
        · have hf := fd_f c6 hf
          refine fr_iload (pc := 83) dX8_where_83 0 rfl ?_
          refine fr_iload (pc := 85) dX8_where_85 6 rfl ?_
          refine fr_icmp_le (pc := 87) 98 dX8_where_87 (by decide) (fun c7 => ?_) (fun c7 => ?_)
          · have hf := fd_t c7 hf
            refine fr_iinc (pc := 98) (v := (v6 + (1 : Int32))) (lv' := [(6, .int (v6 + (1 : Int32))), (7, .int r4), (0, .ref (g.2.2.2 + 0)), (1, .int a1), (2, .int a2), (3, .int a3), (4, .int v4), (5, .int v5)]) dX8_where_98 7 rfl rfl (by decide) rfl ?_
            refine fr_goto (pc := 101) 42 dX8_where_101 (by decide) ?_
            refine fr_loc (lv' := [(0, .ref (g.2.2.2 + 0)), (1, .int a1), (2, .int a2), (3, .int a3), (4, .int v4), (5, .int v5), (6, .int (v6 + (1 : Int32)))]) [2, 3, 4, 5, 6, 7, 0] rfl ?_
            exact ih _ _ _ hf
          · have hf := fd_f c7 hf
            refine fr_loc (lv' := [(0, .ref (g.2.2.2 + 0)), (1, .int a1), (2, .int a2), (3, .int a3), (6, .int v6), (7, .int r4)]) [1, 2, 3, 4, 7, 0] rfl ?_
            exact sX8_where_L90 ih  _ _ hf
        · have hf := fd_t c6 hf
          refine fr_iload (pc := 73) dX8_where_73 0 rfl ?_
          refine fr_iload (pc := 75) dX8_where_75 6 rfl ?_
          refine fr_icmp_ge (pc := 77) 98 dX8_where_77 (by decide) (fun c8 => ?_) (fun c8 => ?_)
          · have hf := fd_t c8 hf
            refine fr_iinc (pc := 98) (v := (v6 + (1 : Int32))) (lv' := [(6, .int (v6 + (1 : Int32))), (7, .int r4), (0, .ref (g.2.2.2 + 0)), (1, .int a1), (2, .int a2), (3, .int a3), (4, .int v4), (5, .int v5)]) dX8_where_98 7 rfl rfl (by decide) rfl ?_
            refine fr_goto (pc := 101) 42 dX8_where_101 (by decide) ?_
            refine fr_loc (lv' := [(0, .ref (g.2.2.2 + 0)), (1, .int a1), (2, .int a2), (3, .int a3), (4, .int v4), (5, .int v5), (6, .int (v6 + (1 : Int32)))]) [2, 3, 4, 5, 6, 7, 0] rfl ?_
            exact ih _ _ _ hf
          · have hf := fd_f c8 hf
            refine fr_goto (pc := 80) 90 dX8_where_80 (by decide) ?_
            refine fr_loc (lv' := [(0, .ref (g.2.2.2 + 0)), (1, .int a1), (2, .int a2), (3, .int a3), (6, .int v6), (7, .int r4)]) [1, 2, 3, 4, 7, 0] rfl ?_
            exact sX8_where_L90 ih  _ _ hf
def fX8_where (a1 : Int32) (a2 : Int32) (a3 : Int32) (h : fd_H) : Option (Int32) :=
(fX8_isBelow a1 (h.1 48 1)).bind fun r2 =>
if r2 = true then (
(fX8_isBelow a2 (2 : Int32)).bind fun r5 =>
if r5 = true then (
(fX8_isBelow a3 (2 : Int32)).bind fun r8 =>
if r8 = true then (
fX8_where_L42 a1 a2 a3 h fd_fu (-1 : Int32) (-1 : Int32) (0 : Int32))
else (
some ((-2 : Int32))))
else (
some ((-2 : Int32))))
else (
some ((-2 : Int32)))
set_option maxRecDepth 100000 in
set_option maxHeartbeats 4000000 in
theorem sX8_where {g : fd_G} {hm : fd_H} {a1 : Int32} {a2 : Int32} {a3 : Int32} {h : fd_H} {r : Int32} (hf : fX8_where a1 a2 a3 h = some r) : fd_S g mX8_where 4 [.ref (g.2.2.2 + 0), .int a1, .int a2, .int a3] fd_X0 (fd_mx h hm) (some (.int r)) fd_X0 (fd_mx h hm) 0 0 := by
  refine fd_S.of (by decide +kernel) (Nat.le_of_ble_eq_true rfl) ?_
  unfold fX8_where at hf
  refine fr_loc (lv' := [(0, .ref (g.2.2.2 + 0)), (1, .int a1), (2, .int a2), (3, .int a3)]) [0, 1, 2, 3] rfl ?_
  refine fr_iload_n (pc := 0) dX8_where_0 1 rfl rfl ?_
  refine fr_aload_n (pc := 1) dX8_where_1 0 rfl rfl ?_
  refine fr_getR (pc := 2) dX8_where_2 fl_X8_33 (by decide) rfl rfl ?_
  refine vx_getI (pc := 5) dX8_where_5 fl_X8_104 (by decide) (by decide) rfl rfl ?_
  obtain ⟨r2, hc1, hf⟩ := fd_bi hf
  refine fr_callSz (pc := 8) (av := [.int a1, .int (h.1 48 1)]) dX8_where_8 yy_X8_isBelow kw_111 rfl rfl (Nat.le_of_ble_eq_true rfl) ⟨Nat.le_of_ble_eq_true rfl, Nat.le_of_ble_eq_true rfl, Nat.zero_le _, Nat.zero_le _⟩ (sX8_isBelow hc1) ?_
  refine fr_bz (pc := 11) 30 dX8_where_11 (by decide) (fun c3 => ?_) (fun c3 => ?_)
  · have hf := fd_f c3 hf
    refine fr_bipush (pc := 30) (v := (-2 : Int32)) dX8_where_30 (by decide) ?_
    exact fr_iretP (x := (-2 : Int32)) (pc := 32) dX8_where_32 rfl hf
  · have hf := fd_t c3 hf
    refine fr_iload_n (pc := 14) dX8_where_14 2 rfl rfl ?_
    refine fr_iconst (pc := 15) (v := (2 : Int32)) dX8_where_15 (by decide) ?_
    obtain ⟨r5, hc4, hf⟩ := fd_bi hf
    refine fr_callSz (pc := 16) (av := [.int a2, .int (2 : Int32)]) dX8_where_16 yy_X8_isBelow kw_111 rfl rfl (Nat.le_of_ble_eq_true rfl) ⟨Nat.le_of_ble_eq_true rfl, Nat.le_of_ble_eq_true rfl, Nat.zero_le _, Nat.zero_le _⟩ (sX8_isBelow hc4) ?_
    refine fr_bz (pc := 19) 30 dX8_where_19 (by decide) (fun c6 => ?_) (fun c6 => ?_)
    · have hf := fd_f c6 hf
      refine fr_bipush (pc := 30) (v := (-2 : Int32)) dX8_where_30 (by decide) ?_
      exact fr_iretP (x := (-2 : Int32)) (pc := 32) dX8_where_32 rfl hf
    · have hf := fd_t c6 hf
      refine fr_iload_n (pc := 22) dX8_where_22 3 rfl rfl ?_
      refine fr_iconst (pc := 23) (v := (2 : Int32)) dX8_where_23 (by decide) ?_
      obtain ⟨r8, hc7, hf⟩ := fd_bi hf
      refine fr_callSz (pc := 24) (av := [.int a3, .int (2 : Int32)]) dX8_where_24 yy_X8_isBelow kw_111 rfl rfl (Nat.le_of_ble_eq_true rfl) ⟨Nat.le_of_ble_eq_true rfl, Nat.le_of_ble_eq_true rfl, Nat.zero_le _, Nat.zero_le _⟩ (sX8_isBelow hc7) ?_
      refine fr_bn (pc := 27) 33 dX8_where_27 (by decide) (fun c9 => ?_) (fun c9 => ?_)
      · have hf := fd_t c9 hf
        refine fr_iconst (pc := 33) (v := (-1 : Int32)) dX8_where_33 (by decide) ?_
        refine fr_istore (pc := 34) (lv' := [(4, .int (-1 : Int32)), (0, .ref (g.2.2.2 + 0)), (1, .int a1), (2, .int a2), (3, .int a3)]) dX8_where_34 (by decide) rfl ?_
        refine fr_iconst (pc := 36) (v := (-1 : Int32)) dX8_where_36 (by decide) ?_
        refine fr_istore (pc := 37) (lv' := [(5, .int (-1 : Int32)), (4, .int (-1 : Int32)), (0, .ref (g.2.2.2 + 0)), (1, .int a1), (2, .int a2), (3, .int a3)]) dX8_where_37 (by decide) rfl ?_
        refine fr_iconst (pc := 39) (v := (0 : Int32)) dX8_where_39 (by decide) ?_
        refine fr_istore (pc := 40) (lv' := [(6, .int (0 : Int32)), (5, .int (-1 : Int32)), (4, .int (-1 : Int32)), (0, .ref (g.2.2.2 + 0)), (1, .int a1), (2, .int a2), (3, .int a3)]) dX8_where_40 (by decide) rfl ?_
        refine fr_loc (lv' := [(0, .ref (g.2.2.2 + 0)), (1, .int a1), (2, .int a2), (3, .int a3), (4, .int (-1 : Int32)), (5, .int (-1 : Int32)), (6, .int (0 : Int32))]) [3, 4, 5, 6, 2, 1, 0] rfl ?_
        exact sX8_where_L42 _  _ _ _ hf
      · have hf := fd_f c9 hf
        refine fr_bipush (pc := 30) (v := (-2 : Int32)) dX8_where_30 (by decide) ?_
        exact fr_iretP (x := (-2 : Int32)) (pc := 32) dX8_where_32 rfl hf
theorem dX8_carried_0 : decode cX8_carried 0 = .ok (.iconst 0, 1) := by decide +kernel
theorem dX8_carried_1 : decode cX8_carried 1 = .ok (.istore_n 1, 1) := by decide +kernel
theorem dX8_carried_2 : decode cX8_carried 2 = .ok (.iconst 0, 1) := by decide +kernel
theorem dX8_carried_3 : decode cX8_carried 3 = .ok (.istore_n 2, 1) := by decide +kernel
theorem dX8_carried_4 : decode cX8_carried 4 = .ok (.iload_n 2, 1) := by decide +kernel
theorem dX8_carried_5 : decode cX8_carried 5 = .ok (.aload_n 0, 1) := by decide +kernel
theorem dX8_carried_6 : decode cX8_carried 6 = .ok (.getfield 21, 3) := by decide +kernel
theorem dX8_carried_9 : decode cX8_carried 9 = .ok (.getfield 127, 3) := by decide +kernel
theorem dX8_carried_12 : decode cX8_carried 12 = .ok (.getfield 130, 3) := by decide +kernel
theorem dX8_carried_15 : decode cX8_carried 15 = .ok (.if_icmp .ge 62, 3) := by decide +kernel
theorem dX8_carried_18 : decode cX8_carried 18 = .ok (.iconst 0, 1) := by decide +kernel
theorem dX8_carried_19 : decode cX8_carried 19 = .ok (.istore_n 3, 1) := by decide +kernel
theorem dX8_carried_20 : decode cX8_carried 20 = .ok (.iload_n 3, 1) := by decide +kernel
theorem dX8_carried_21 : decode cX8_carried 21 = .ok (.aload_n 0, 1) := by decide +kernel
theorem dX8_carried_22 : decode cX8_carried 22 = .ok (.getfield 29, 3) := by decide +kernel
theorem dX8_carried_25 : decode cX8_carried 25 = .ok (.getfield 150, 3) := by decide +kernel
theorem dX8_carried_28 : decode cX8_carried 28 = .ok (.if_icmp .ge 26, 3) := by decide +kernel
theorem dX8_carried_31 : decode cX8_carried 31 = .ok (.aload_n 0, 1) := by decide +kernel
theorem dX8_carried_32 : decode cX8_carried 32 = .ok (.getfield 47, 3) := by decide +kernel
theorem dX8_carried_35 : decode cX8_carried 35 = .ok (.iload_n 3, 1) := by decide +kernel
theorem dX8_carried_36 : decode cX8_carried 36 = .ok (.aload_n 0, 1) := by decide +kernel
theorem dX8_carried_37 : decode cX8_carried 37 = .ok (.getfield 21, 3) := by decide +kernel
theorem dX8_carried_40 : decode cX8_carried 40 = .ok (.iload_n 2, 1) := by decide +kernel
theorem dX8_carried_41 : decode cX8_carried 41 = .ok (.iload_n 3, 1) := by decide +kernel
theorem dX8_carried_42 : decode cX8_carried 42 = .ok (.invokevirtual 218, 3) := by decide +kernel
theorem dX8_carried_45 : decode cX8_carried 45 = .ok (.invokevirtual 210, 3) := by decide +kernel
theorem dX8_carried_48 : decode cX8_carried 48 = .ok (.iinc 3 1, 3) := by decide +kernel
theorem dX8_carried_51 : decode cX8_carried 51 = .ok (.goto (-31), 3) := by decide +kernel
theorem dX8_carried_54 : decode cX8_carried 54 = .ok (.aload_n 0, 1) := by decide +kernel
theorem dX8_carried_55 : decode cX8_carried 55 = .ok (.aload_n 0, 1) := by decide +kernel
theorem dX8_carried_56 : decode cX8_carried 56 = .ok (.getfield 47, 3) := by decide +kernel
theorem dX8_carried_59 : decode cX8_carried 59 = .ok (.invokevirtual 214, 3) := by decide +kernel
theorem dX8_carried_62 : decode cX8_carried 62 = .ok (.ifCond .eq 9, 3) := by decide +kernel
theorem dX8_carried_65 : decode cX8_carried 65 = .ok (.iload_n 1, 1) := by decide +kernel
theorem dX8_carried_66 : decode cX8_carried 66 = .ok (.iconst 1, 1) := by decide +kernel
theorem dX8_carried_67 : decode cX8_carried 67 = .ok (.iload_n 2, 1) := by decide +kernel
theorem dX8_carried_68 : decode cX8_carried 68 = .ok (.ishl, 1) := by decide +kernel
theorem dX8_carried_69 : decode cX8_carried 69 = .ok (.ior, 1) := by decide +kernel
theorem dX8_carried_70 : decode cX8_carried 70 = .ok (.istore_n 1, 1) := by decide +kernel
theorem dX8_carried_71 : decode cX8_carried 71 = .ok (.iinc 2 1, 3) := by decide +kernel
theorem dX8_carried_74 : decode cX8_carried 74 = .ok (.goto (-70), 3) := by decide +kernel
theorem dX8_carried_77 : decode cX8_carried 77 = .ok (.iload_n 1, 1) := by decide +kernel
theorem dX8_carried_78 : decode cX8_carried 78 = .ok (.ireturn, 1) := by decide +kernel
def fX8_carried_L20  (K4 : Int32 → Int32 → fd_H → Option (Int32 × fd_H)) : Nat → Int32 → Int32 → Int32 → fd_H → Option (Int32 × fd_H)
  | 0 => fun _ _ _ _ => none
  | n + 1 => fun v1 v2 v3 h =>
if (h.1 12 3) ≤ v3 then (
(fX8_isAsSeen 58 h).bind fun r3 =>
if r3 = true then (
fd_lt ((v1 ||| ((1 : Int32) <<< (v2 &&& 31)))) fun x5 =>
K4 x5 (v2 + (1 : Int32)) h)
else (
K4 v1 (v2 + (1 : Int32)) h))
else (
(fX7_frostsWithout v2 v3 h).bind fun r7 =>
(fX5_set 58 v3 r7 h).bind fun h9 =>
fX8_carried_L20  K4 n v1 v2 (v3 + (1 : Int32)) h9)
set_option maxRecDepth 100000 in
set_option maxHeartbeats 4000000 in
theorem sX8_carried_L20 {g : fd_G} {hm : fd_H} {r : Int32 × fd_H} {K4 : Int32 → Int32 → fd_H → Option (Int32 × fd_H)} (hK4 : ∀ (v1 : Int32) (v2 : Int32) (h : fd_H), K4 v1 v2 h = some r → fd_A g mX8_carried fd_E (fd_rm 4 0 0) (fd_Q g (some (.int r.1)) fd_X0 (fd_mx r.2 hm) 0 0) 4 [(0, .ref (g.2.2.2 + 0)), (1, .int v1), (2, .int v2)] [] fd_X0 (fd_mx h hm) 0 0) : ∀ (n : Nat) (v1 : Int32) (v2 : Int32) (v3 : Int32) (h : fd_H), fX8_carried_L20  K4 n v1 v2 v3 h = some r → fd_A g mX8_carried fd_E (fd_rm 4 0 0) (fd_Q g (some (.int r.1)) fd_X0 (fd_mx r.2 hm) 0 0) 20 [(0, .ref (g.2.2.2 + 0)), (1, .int v1), (2, .int v2), (3, .int v3)] [] fd_X0 (fd_mx h hm) 0 0 := by
  intro n
  induction n with
  | zero =>
    intro _ _ _ _ hf
    cases hf
  | succ n ih =>
    intro v1 v2 v3 h hf
    rw [fX8_carried_L20] at hf
    refine fr_iload_n (pc := 20) dX8_carried_20 3 rfl rfl ?_
    refine fr_aload_n (pc := 21) dX8_carried_21 0 rfl rfl ?_
    refine fr_getR (pc := 22) dX8_carried_22 fl_X8_29 (by decide) rfl rfl ?_
    refine vx_getI (pc := 25) dX8_carried_25 fl_X8_150 (by decide) (by decide) rfl rfl ?_
    refine fr_icmp_ge (pc := 28) 54 dX8_carried_28 (by decide) (fun c1 => ?_) (fun c1 => ?_)
    · have hf := fd_t c1 hf
      refine fr_aload_n (pc := 54) dX8_carried_54 0 rfl rfl ?_
      refine fr_aload_n (pc := 55) dX8_carried_55 0 rfl rfl ?_
      refine fr_getR (pc := 56) dX8_carried_56 fl_X8_47 (by decide) rfl rfl ?_
      obtain ⟨r3, hc2, hf⟩ := fd_bi hf
      refine fr_callVz (pc := 59) (av := [.ref (g.2.2.2 + 58)]) dX8_carried_59 yy_X8_isAsSeen kw_314 (by decide) rfl rfl rfl rfl (Nat.le_of_ble_eq_true rfl) ⟨Nat.le_of_ble_eq_true rfl, Nat.le_of_ble_eq_true rfl, Nat.zero_le _, Nat.zero_le _⟩ (sX8_isAsSeen is_58 hc2) ?_
      refine fr_bz (pc := 62) 71 dX8_carried_62 (by decide) (fun c4 => ?_) (fun c4 => ?_)
      · have hf := fd_f c4 hf
        refine fr_iinc (pc := 71) (v := (v2 + (1 : Int32))) (lv' := [(2, .int (v2 + (1 : Int32))), (0, .ref (g.2.2.2 + 0)), (1, .int v1), (3, .int v3)]) dX8_carried_71 2 rfl rfl (by decide) rfl ?_
        refine fr_goto (pc := 74) 4 dX8_carried_74 (by decide) ?_
        refine fr_loc (lv' := [(0, .ref (g.2.2.2 + 0)), (1, .int v1), (2, .int (v2 + (1 : Int32)))]) [1, 2, 0] rfl ?_
        exact hK4 _ _ _ hf
      · have hf := fd_t c4 hf
        refine fr_iload_n (pc := 65) dX8_carried_65 1 rfl rfl ?_
        refine fr_iconst (pc := 66) (v := (1 : Int32)) dX8_carried_66 (by decide) ?_
        refine fr_iload_n (pc := 67) dX8_carried_67 2 rfl rfl ?_
        refine fr_ishl (pc := 68) dX8_carried_68 ?_
        refine fr_ior (pc := 69) dX8_carried_69 ?_
        obtain ⟨x5, ex5, hf⟩ := fd_lt_e hf
        refine fr_nmi ex5 ?_
        refine fr_istore_n (pc := 70) (lv' := [(1, .int x5), (0, .ref (g.2.2.2 + 0)), (2, .int v2), (3, .int v3)]) dX8_carried_70 rfl (by decide) rfl ?_
        refine fr_iinc (pc := 71) (v := (v2 + (1 : Int32))) (lv' := [(2, .int (v2 + (1 : Int32))), (1, .int x5), (0, .ref (g.2.2.2 + 0)), (3, .int v3)]) dX8_carried_71 2 rfl rfl (by decide) rfl ?_
        refine fr_goto (pc := 74) 4 dX8_carried_74 (by decide) ?_
        refine fr_loc (lv' := [(0, .ref (g.2.2.2 + 0)), (1, .int x5), (2, .int (v2 + (1 : Int32)))]) [2, 1, 0] rfl ?_
        exact hK4 _ _ _ hf
    · have hf := fd_f c1 hf
      refine fr_aload_n (pc := 31) dX8_carried_31 0 rfl rfl ?_
      refine fr_getR (pc := 32) dX8_carried_32 fl_X8_47 (by decide) rfl rfl ?_
      refine fr_iload_n (pc := 35) dX8_carried_35 3 rfl rfl ?_
      refine fr_aload_n (pc := 36) dX8_carried_36 0 rfl rfl ?_
      refine fr_getR (pc := 37) dX8_carried_37 fl_X8_21 (by decide) rfl rfl ?_
      refine fr_iload_n (pc := 40) dX8_carried_40 2 rfl rfl ?_
      refine fr_iload_n (pc := 41) dX8_carried_41 3 rfl rfl ?_
      obtain ⟨r7, hc6, hf⟩ := fd_bi hf
      refine fr_callVl (pc := 42) (av := [.int v2, .int v3]) dX8_carried_42 yy_X7_frostsWithout kw_389 (by decide) rfl rfl rfl rfl (Nat.le_of_ble_eq_true rfl) ⟨Nat.le_of_ble_eq_true rfl, Nat.le_of_ble_eq_true rfl, Nat.zero_le _, Nat.zero_le _⟩ (sX7_frostsWithout hc6) ?_
      obtain ⟨h9, hc8, hf⟩ := fd_bi hf
      refine fr_callVv (pc := 45) (av := [.int v3, .long r7]) dX8_carried_45 yy_X5_set kw_319 (by decide) rfl rfl rfl rfl (Nat.le_of_ble_eq_true rfl) ⟨Nat.le_of_ble_eq_true rfl, Nat.le_of_ble_eq_true rfl, Nat.zero_le _, Nat.zero_le _⟩ (sX5_set is_58 hc8) ?_
      refine fr_iinc (pc := 48) (v := (v3 + (1 : Int32))) (lv' := [(3, .int (v3 + (1 : Int32))), (0, .ref (g.2.2.2 + 0)), (1, .int v1), (2, .int v2)]) dX8_carried_48 3 rfl rfl (by decide) rfl ?_
      refine fr_goto (pc := 51) 20 dX8_carried_51 (by decide) ?_
      refine fr_loc (lv' := [(0, .ref (g.2.2.2 + 0)), (1, .int v1), (2, .int v2), (3, .int (v3 + (1 : Int32)))]) [1, 2, 3, 0] rfl ?_
      exact ih _ _ _ _ hf
def fX8_carried_L4  : Nat → Int32 → Int32 → fd_H → Option (Int32 × fd_H)
  | 0 => fun _ _ _ => none
  | n + 1 => fun v1 v2 h =>
if (h.1 33 3) ≤ v2 then (
some (v1, h))
else (
fX8_carried_L20  (fX8_carried_L4  n) fd_fu v1 v2 (0 : Int32) h)
set_option maxRecDepth 100000 in
set_option maxHeartbeats 4000000 in
theorem sX8_carried_L4 {g : fd_G} {hm : fd_H} {r : Int32 × fd_H} : ∀ (n : Nat) (v1 : Int32) (v2 : Int32) (h : fd_H), fX8_carried_L4  n v1 v2 h = some r → fd_A g mX8_carried fd_E (fd_rm 4 0 0) (fd_Q g (some (.int r.1)) fd_X0 (fd_mx r.2 hm) 0 0) 4 [(0, .ref (g.2.2.2 + 0)), (1, .int v1), (2, .int v2)] [] fd_X0 (fd_mx h hm) 0 0 := by
  intro n
  induction n with
  | zero =>
    intro _ _ _ hf
    cases hf
  | succ n ih =>
    intro v1 v2 h hf
    rw [fX8_carried_L4] at hf
    refine fr_iload_n (pc := 4) dX8_carried_4 2 rfl rfl ?_
    refine fr_aload_n (pc := 5) dX8_carried_5 0 rfl rfl ?_
    refine fr_getR (pc := 6) dX8_carried_6 fl_X8_21 (by decide) rfl rfl ?_
    refine fr_getR (pc := 9) dX8_carried_9 fl_X8_127 (by decide) rfl rfl ?_
    refine vx_getI (pc := 12) dX8_carried_12 fl_X8_130 (by decide) (by decide) rfl rfl ?_
    refine fr_icmp_ge (pc := 15) 77 dX8_carried_15 (by decide) (fun c1 => ?_) (fun c1 => ?_)
    · have hf := fd_t c1 hf
      refine fr_iload_n (pc := 77) dX8_carried_77 1 rfl rfl ?_
      exact vx_iretW (x := v1) (pc := 78) dX8_carried_78 rfl hf
    · have hf := fd_f c1 hf
      refine fr_iconst (pc := 18) (v := (0 : Int32)) dX8_carried_18 (by decide) ?_
      refine fr_istore_n (pc := 19) (lv' := [(3, .int (0 : Int32)), (0, .ref (g.2.2.2 + 0)), (1, .int v1), (2, .int v2)]) dX8_carried_19 rfl (by decide) rfl ?_
      refine fr_loc (lv' := [(0, .ref (g.2.2.2 + 0)), (1, .int v1), (2, .int v2), (3, .int (0 : Int32))]) [1, 2, 3, 0] rfl ?_
      exact sX8_carried_L20 ih _  _ _ _ _ hf
def fX8_carried  (h : fd_H) : Option (Int32 × fd_H) :=
fX8_carried_L4  fd_fu (0 : Int32) (0 : Int32) h
set_option maxRecDepth 100000 in
set_option maxHeartbeats 4000000 in
theorem sX8_carried {g : fd_G} {hm : fd_H} {r : Int32 × fd_H} {h : fd_H} (hf : fX8_carried  h = some r) : fd_S g mX8_carried 4 [.ref (g.2.2.2 + 0)] fd_X0 (fd_mx h hm) (some (.int r.1)) fd_X0 (fd_mx r.2 hm) 0 0 := by
  refine fd_S.of (by decide +kernel) (Nat.le_of_ble_eq_true rfl) ?_
  unfold fX8_carried at hf
  refine fr_loc (lv' := [(0, .ref (g.2.2.2 + 0))]) [0] rfl ?_
  refine fr_iconst (pc := 0) (v := (0 : Int32)) dX8_carried_0 (by decide) ?_
  refine fr_istore_n (pc := 1) (lv' := [(1, .int (0 : Int32)), (0, .ref (g.2.2.2 + 0))]) dX8_carried_1 rfl (by decide) rfl ?_
  refine fr_iconst (pc := 2) (v := (0 : Int32)) dX8_carried_2 (by decide) ?_
  refine fr_istore_n (pc := 3) (lv' := [(2, .int (0 : Int32)), (1, .int (0 : Int32)), (0, .ref (g.2.2.2 + 0))]) dX8_carried_3 rfl (by decide) rfl ?_
  refine fr_loc (lv' := [(0, .ref (g.2.2.2 + 0)), (1, .int (0 : Int32)), (2, .int (0 : Int32))]) [2, 1, 0] rfl ?_
  exact sX8_carried_L4 _  _ _ _ hf
theorem dX8_ask_0 : decode cX8_ask 0 = .ok (.iload_n 1, 1) := by decide +kernel
theorem dX8_ask_1 : decode cX8_ask 1 = .ok (.aload_n 0, 1) := by decide +kernel
theorem dX8_ask_2 : decode cX8_ask 2 = .ok (.getfield 21, 3) := by decide +kernel
theorem dX8_ask_5 : decode cX8_ask 5 = .ok (.getfield 98, 3) := by decide +kernel
theorem dX8_ask_8 : decode cX8_ask 8 = .ok (.invokestatic 62, 3) := by decide +kernel
theorem dX8_ask_11 : decode cX8_ask 11 = .ok (.ifCond .ne 6, 3) := by decide +kernel
theorem dX8_ask_14 : decode cX8_ask 14 = .ok (.bipush (-2), 2) := by decide +kernel
theorem dX8_ask_16 : decode cX8_ask 16 = .ok (.ireturn, 1) := by decide +kernel
theorem dX8_ask_17 : decode cX8_ask 17 = .ok (.aload_n 0, 1) := by decide +kernel
theorem dX8_ask_18 : decode cX8_ask 18 = .ok (.iload_n 1, 1) := by decide +kernel
theorem dX8_ask_19 : decode cX8_ask 19 = .ok (.invokevirtual 222, 3) := by decide +kernel
theorem dX8_ask_22 : decode cX8_ask 22 = .ok (.istore_n 2, 1) := by decide +kernel
theorem dX8_ask_23 : decode cX8_ask 23 = .ok (.iconst (-1), 1) := by decide +kernel
theorem dX8_ask_24 : decode cX8_ask 24 = .ok (.istore_n 3, 1) := by decide +kernel
theorem dX8_ask_25 : decode cX8_ask 25 = .ok (.iconst 0, 1) := by decide +kernel
theorem dX8_ask_26 : decode cX8_ask 26 = .ok (.istore 4, 2) := by decide +kernel
theorem dX8_ask_28 : decode cX8_ask 28 = .ok (.iconst 0, 1) := by decide +kernel
theorem dX8_ask_29 : decode cX8_ask 29 = .ok (.istore 5, 2) := by decide +kernel
theorem dX8_ask_31 : decode cX8_ask 31 = .ok (.iload 5, 2) := by decide +kernel
theorem dX8_ask_33 : decode cX8_ask 33 = .ok (.aload_n 0, 1) := by decide +kernel
theorem dX8_ask_34 : decode cX8_ask 34 = .ok (.getfield 29, 3) := by decide +kernel
theorem dX8_ask_37 : decode cX8_ask 37 = .ok (.getfield 150, 3) := by decide +kernel
theorem dX8_ask_40 : decode cX8_ask 40 = .ok (.if_icmp .ge 38, 3) := by decide +kernel
theorem dX8_ask_43 : decode cX8_ask 43 = .ok (.aload_n 0, 1) := by decide +kernel
theorem dX8_ask_44 : decode cX8_ask 44 = .ok (.iload_n 2, 1) := by decide +kernel
theorem dX8_ask_45 : decode cX8_ask 45 = .ok (.iload_n 1, 1) := by decide +kernel
theorem dX8_ask_46 : decode cX8_ask 46 = .ok (.iload 5, 2) := by decide +kernel
theorem dX8_ask_48 : decode cX8_ask 48 = .ok (.invokevirtual 225, 3) := by decide +kernel
theorem dX8_ask_51 : decode cX8_ask 51 = .ok (.istore 6, 2) := by decide +kernel
theorem dX8_ask_53 : decode cX8_ask 53 = .ok (.iload_n 3, 1) := by decide +kernel
theorem dX8_ask_54 : decode cX8_ask 54 = .ok (.iconst (-1), 1) := by decide +kernel
theorem dX8_ask_55 : decode cX8_ask 55 = .ok (.if_icmp .eq 10, 3) := by decide +kernel
theorem dX8_ask_58 : decode cX8_ask 58 = .ok (.iload 6, 2) := by decide +kernel
theorem dX8_ask_60 : decode cX8_ask 60 = .ok (.iload 4, 2) := by decide +kernel
theorem dX8_ask_62 : decode cX8_ask 62 = .ok (.if_icmp .ge 10, 3) := by decide +kernel
theorem dX8_ask_65 : decode cX8_ask 65 = .ok (.iload 5, 2) := by decide +kernel
theorem dX8_ask_67 : decode cX8_ask 67 = .ok (.istore_n 3, 1) := by decide +kernel
theorem dX8_ask_68 : decode cX8_ask 68 = .ok (.iload 6, 2) := by decide +kernel
theorem dX8_ask_70 : decode cX8_ask 70 = .ok (.istore 4, 2) := by decide +kernel
theorem dX8_ask_72 : decode cX8_ask 72 = .ok (.iinc 5 1, 3) := by decide +kernel
theorem dX8_ask_75 : decode cX8_ask 75 = .ok (.goto (-44), 3) := by decide +kernel
theorem dX8_ask_78 : decode cX8_ask 78 = .ok (.iload_n 3, 1) := by decide +kernel
theorem dX8_ask_79 : decode cX8_ask 79 = .ok (.ireturn, 1) := by decide +kernel
def fX8_ask_L65 (a1 : Int32) (K31 : Int32 → Int32 → Int32 → Int32 → fd_H → Option (Int32 × fd_H)) (v2 : Int32) (v5 : Int32) (v6 : Int32) (h : fd_H) : Option (Int32 × fd_H) :=
K31 v2 v5 v6 (v5 + (1 : Int32)) h
set_option maxRecDepth 100000 in
set_option maxHeartbeats 4000000 in
theorem sX8_ask_L65 {g : fd_G} {hm : fd_H} {a1 : Int32} {r : Int32 × fd_H} {K31 : Int32 → Int32 → Int32 → Int32 → fd_H → Option (Int32 × fd_H)} (hK31 : ∀ (v2 : Int32) (v3 : Int32) (v4 : Int32) (v5 : Int32) (h : fd_H), K31 v2 v3 v4 v5 h = some r → fd_A g mX8_ask fd_E (fd_rm 4 0 0) (fd_Q g (some (.int r.1)) fd_X0 (fd_mx r.2 hm) 0 0) 31 [(0, .ref (g.2.2.2 + 0)), (1, .int a1), (2, .int v2), (3, .int v3), (4, .int v4), (5, .int v5)] [] fd_X0 (fd_mx h hm) 0 0) : ∀ (v2 : Int32) (v5 : Int32) (v6 : Int32) (h : fd_H), fX8_ask_L65 a1 K31 v2 v5 v6 h = some r → fd_A g mX8_ask fd_E (fd_rm 4 0 0) (fd_Q g (some (.int r.1)) fd_X0 (fd_mx r.2 hm) 0 0) 65 [(0, .ref (g.2.2.2 + 0)), (1, .int a1), (2, .int v2), (5, .int v5), (6, .int v6)] [] fd_X0 (fd_mx h hm) 0 0 := by
  intro v2 v5 v6 h hf
  unfold fX8_ask_L65 at hf
  refine fr_iload (pc := 65) dX8_ask_65 3 rfl ?_
  refine fr_istore_n (pc := 67) (lv' := [(3, .int v5), (0, .ref (g.2.2.2 + 0)), (1, .int a1), (2, .int v2), (5, .int v5), (6, .int v6)]) dX8_ask_67 rfl (by decide) rfl ?_
  refine fr_iload (pc := 68) dX8_ask_68 5 rfl ?_
  refine fr_istore (pc := 70) (lv' := [(4, .int v6), (3, .int v5), (0, .ref (g.2.2.2 + 0)), (1, .int a1), (2, .int v2), (5, .int v5), (6, .int v6)]) dX8_ask_70 (by decide) rfl ?_
  refine fr_iinc (pc := 72) (v := (v5 + (1 : Int32))) (lv' := [(5, .int (v5 + (1 : Int32))), (4, .int v6), (3, .int v5), (0, .ref (g.2.2.2 + 0)), (1, .int a1), (2, .int v2), (6, .int v6)]) dX8_ask_72 5 rfl rfl (by decide) rfl ?_
  refine fr_goto (pc := 75) 31 dX8_ask_75 (by decide) ?_
  refine fr_loc (lv' := [(0, .ref (g.2.2.2 + 0)), (1, .int a1), (2, .int v2), (3, .int v5), (4, .int v6), (5, .int (v5 + (1 : Int32)))]) [3, 4, 5, 2, 1, 0] rfl ?_
  exact hK31 _ _ _ _ _ hf
def fX8_ask_L31 (a1 : Int32) : Nat → Int32 → Int32 → Int32 → Int32 → fd_H → Option (Int32 × fd_H)
  | 0 => fun _ _ _ _ _ => none
  | n + 1 => fun v2 v3 v4 v5 h =>
if (h.1 12 3) ≤ v5 then (
some (v3, h))
else (
(fX8_leftAtWorst v2 a1 v5 h).bind fun r3 =>
if v3 = (-1 : Int32) then (
fX8_ask_L65 a1 (fX8_ask_L31 a1 n) v2 v5 r3 h)
else (
if v4 ≤ r3 then (
fX8_ask_L31 a1 n v2 v3 v4 (v5 + (1 : Int32)) h)
else (
fX8_ask_L65 a1 (fX8_ask_L31 a1 n) v2 v5 r3 h)))
set_option maxRecDepth 100000 in
set_option maxHeartbeats 4000000 in
theorem sX8_ask_L31 {g : fd_G} {hm : fd_H} {a1 : Int32} {r : Int32 × fd_H} : ∀ (n : Nat) (v2 : Int32) (v3 : Int32) (v4 : Int32) (v5 : Int32) (h : fd_H), fX8_ask_L31 a1 n v2 v3 v4 v5 h = some r → fd_A g mX8_ask fd_E (fd_rm 4 0 0) (fd_Q g (some (.int r.1)) fd_X0 (fd_mx r.2 hm) 0 0) 31 [(0, .ref (g.2.2.2 + 0)), (1, .int a1), (2, .int v2), (3, .int v3), (4, .int v4), (5, .int v5)] [] fd_X0 (fd_mx h hm) 0 0 := by
  intro n
  induction n with
  | zero =>
    intro _ _ _ _ _ hf
    cases hf
  | succ n ih =>
    intro v2 v3 v4 v5 h hf
    rw [fX8_ask_L31] at hf
    refine fr_iload (pc := 31) dX8_ask_31 5 rfl ?_
    refine fr_aload_n (pc := 33) dX8_ask_33 0 rfl rfl ?_
    refine fr_getR (pc := 34) dX8_ask_34 fl_X8_29 (by decide) rfl rfl ?_
    refine vx_getI (pc := 37) dX8_ask_37 fl_X8_150 (by decide) (by decide) rfl rfl ?_
    refine fr_icmp_ge (pc := 40) 78 dX8_ask_40 (by decide) (fun c1 => ?_) (fun c1 => ?_)
    · have hf := fd_t c1 hf
      refine fr_iload_n (pc := 78) dX8_ask_78 3 rfl rfl ?_
      exact vx_iretW (x := v3) (pc := 79) dX8_ask_79 rfl hf
    · have hf := fd_f c1 hf
      refine fr_aload_n (pc := 43) dX8_ask_43 0 rfl rfl ?_
      refine fr_iload_n (pc := 44) dX8_ask_44 2 rfl rfl ?_
      refine fr_iload_n (pc := 45) dX8_ask_45 1 rfl rfl ?_
      refine fr_iload (pc := 46) dX8_ask_46 5 rfl ?_
      obtain ⟨r3, hc2, hf⟩ := fd_bi hf
      refine fr_callVi (pc := 48) (av := [.int v2, .int a1, .int v5]) dX8_ask_48 yy_X8_leftAtWorst kw_397 (by decide) rfl rfl rfl rfl (Nat.le_of_ble_eq_true rfl) ⟨Nat.le_of_ble_eq_true rfl, Nat.le_of_ble_eq_true rfl, Nat.zero_le _, Nat.zero_le _⟩ (sX8_leftAtWorst hc2) ?_
      refine fr_istore (pc := 51) (lv' := [(6, .int r3), (0, .ref (g.2.2.2 + 0)), (1, .int a1), (2, .int v2), (3, .int v3), (4, .int v4), (5, .int v5)]) dX8_ask_51 (by decide) rfl ?_
      refine fr_iload_n (pc := 53) dX8_ask_53 4 rfl rfl ?_
      refine fr_iconst (pc := 54) (v := (-1 : Int32)) dX8_ask_54 (by decide) ?_
      refine fr_icmp_eq (pc := 55) 65 dX8_ask_55 (by decide) (fun c4 => ?_) (fun c4 => ?_)
      · have hf := fd_t c4 hf
        refine fr_loc (lv' := [(0, .ref (g.2.2.2 + 0)), (1, .int a1), (2, .int v2), (5, .int v5), (6, .int r3)]) [1, 2, 3, 6, 0] rfl ?_
        exact sX8_ask_L65 ih  _ _ _ _ hf
      · have hf := fd_f c4 hf
        refine fr_iload (pc := 58) dX8_ask_58 0 rfl ?_
        refine fr_iload (pc := 60) dX8_ask_60 5 rfl ?_
        refine fr_icmp_ge (pc := 62) 72 dX8_ask_62 (by decide) (fun c5 => ?_) (fun c5 => ?_)
        · have hf := fd_t c5 hf
          refine fr_iinc (pc := 72) (v := (v5 + (1 : Int32))) (lv' := [(5, .int (v5 + (1 : Int32))), (6, .int r3), (0, .ref (g.2.2.2 + 0)), (1, .int a1), (2, .int v2), (3, .int v3), (4, .int v4)]) dX8_ask_72 6 rfl rfl (by decide) rfl ?_
          refine fr_goto (pc := 75) 31 dX8_ask_75 (by decide) ?_
          refine fr_loc (lv' := [(0, .ref (g.2.2.2 + 0)), (1, .int a1), (2, .int v2), (3, .int v3), (4, .int v4), (5, .int (v5 + (1 : Int32)))]) [2, 3, 4, 5, 6, 0] rfl ?_
          exact ih _ _ _ _ _ hf
        · have hf := fd_f c5 hf
          refine fr_loc (lv' := [(0, .ref (g.2.2.2 + 0)), (1, .int a1), (2, .int v2), (5, .int v5), (6, .int r3)]) [1, 2, 3, 6, 0] rfl ?_
          exact sX8_ask_L65 ih  _ _ _ _ hf
def fX8_ask (a1 : Int32) (h : fd_H) : Option (Int32 × fd_H) :=
(fX8_isBelow a1 (h.1 11 5)).bind fun r2 =>
if r2 = true then (
(fX8_was a1 h).bind fun q5 =>
fX8_ask_L31 a1 fd_fu q5.1 (-1 : Int32) (0 : Int32) (0 : Int32) q5.2)
else (
some ((-2 : Int32), h))
set_option maxRecDepth 100000 in
set_option maxHeartbeats 4000000 in
theorem sX8_ask {g : fd_G} {hm : fd_H} {a1 : Int32} {r : Int32 × fd_H} {h : fd_H} (hf : fX8_ask a1 h = some r) : fd_S g mX8_ask 4 [.ref (g.2.2.2 + 0), .int a1] fd_X0 (fd_mx h hm) (some (.int r.1)) fd_X0 (fd_mx r.2 hm) 0 0 := by
  refine fd_S.of (by decide +kernel) (Nat.le_of_ble_eq_true rfl) ?_
  unfold fX8_ask at hf
  refine fr_loc (lv' := [(0, .ref (g.2.2.2 + 0)), (1, .int a1)]) [0, 1] rfl ?_
  refine fr_iload_n (pc := 0) dX8_ask_0 1 rfl rfl ?_
  refine fr_aload_n (pc := 1) dX8_ask_1 0 rfl rfl ?_
  refine fr_getR (pc := 2) dX8_ask_2 fl_X8_21 (by decide) rfl rfl ?_
  refine vx_getI (pc := 5) dX8_ask_5 fl_X8_98 (by decide) (by decide) rfl rfl ?_
  obtain ⟨r2, hc1, hf⟩ := fd_bi hf
  refine fr_callSz (pc := 8) (av := [.int a1, .int (h.1 11 5)]) dX8_ask_8 yy_X8_isBelow kw_111 rfl rfl (Nat.le_of_ble_eq_true rfl) ⟨Nat.le_of_ble_eq_true rfl, Nat.le_of_ble_eq_true rfl, Nat.zero_le _, Nat.zero_le _⟩ (sX8_isBelow hc1) ?_
  refine fr_bn (pc := 11) 17 dX8_ask_11 (by decide) (fun c3 => ?_) (fun c3 => ?_)
  · have hf := fd_t c3 hf
    refine fr_aload_n (pc := 17) dX8_ask_17 0 rfl rfl ?_
    refine fr_iload_n (pc := 18) dX8_ask_18 1 rfl rfl ?_
    obtain ⟨q5, hc4, hf⟩ := fd_bi hf
    refine fr_callVi (pc := 19) (av := [.int a1]) dX8_ask_19 yy_X8_was kw_393 (by decide) rfl rfl rfl rfl (Nat.le_of_ble_eq_true rfl) ⟨Nat.le_of_ble_eq_true rfl, Nat.le_of_ble_eq_true rfl, Nat.zero_le _, Nat.zero_le _⟩ (sX8_was hc4) ?_
    refine fr_istore_n (pc := 22) (lv' := [(2, .int q5.1), (0, .ref (g.2.2.2 + 0)), (1, .int a1)]) dX8_ask_22 rfl (by decide) rfl ?_
    refine fr_iconst (pc := 23) (v := (-1 : Int32)) dX8_ask_23 (by decide) ?_
    refine fr_istore_n (pc := 24) (lv' := [(3, .int (-1 : Int32)), (2, .int q5.1), (0, .ref (g.2.2.2 + 0)), (1, .int a1)]) dX8_ask_24 rfl (by decide) rfl ?_
    refine fr_iconst (pc := 25) (v := (0 : Int32)) dX8_ask_25 (by decide) ?_
    refine fr_istore (pc := 26) (lv' := [(4, .int (0 : Int32)), (3, .int (-1 : Int32)), (2, .int q5.1), (0, .ref (g.2.2.2 + 0)), (1, .int a1)]) dX8_ask_26 (by decide) rfl ?_
    refine fr_iconst (pc := 28) (v := (0 : Int32)) dX8_ask_28 (by decide) ?_
    refine fr_istore (pc := 29) (lv' := [(5, .int (0 : Int32)), (4, .int (0 : Int32)), (3, .int (-1 : Int32)), (2, .int q5.1), (0, .ref (g.2.2.2 + 0)), (1, .int a1)]) dX8_ask_29 (by decide) rfl ?_
    refine fr_loc (lv' := [(0, .ref (g.2.2.2 + 0)), (1, .int a1), (2, .int q5.1), (3, .int (-1 : Int32)), (4, .int (0 : Int32)), (5, .int (0 : Int32))]) [4, 5, 3, 2, 1, 0] rfl ?_
    exact sX8_ask_L31 _  _ _ _ _ _ hf
  · have hf := fd_f c3 hf
    refine fr_bipush (pc := 14) (v := (-2 : Int32)) dX8_ask_14 (by decide) ?_
    exact vx_iretW (x := (-2 : Int32)) (pc := 16) dX8_ask_16 rfl hf
theorem dX8_parse_0 : decode cX8_parse 0 = .ok (.iload_n 1, 1) := by decide +kernel
theorem dX8_parse_1 : decode cX8_parse 1 = .ok (.iconst 3, 1) := by decide +kernel
theorem dX8_parse_2 : decode cX8_parse 2 = .ok (.invokestatic 62, 3) := by decide +kernel
theorem dX8_parse_5 : decode cX8_parse 5 = .ok (.ifCond .ne 4, 3) := by decide +kernel
theorem dX8_parse_8 : decode cX8_parse 8 = .ok (.return_, 1) := by decide +kernel
theorem dX8_parse_9 : decode cX8_parse 9 = .ok (.aload_n 0, 1) := by decide +kernel
theorem dX8_parse_10 : decode cX8_parse 10 = .ok (.getfield 14, 3) := by decide +kernel
theorem dX8_parse_13 : decode cX8_parse 13 = .ok (.iload_n 1, 1) := by decide +kernel
theorem dX8_parse_14 : decode cX8_parse 14 = .ok (.aaload, 1) := by decide +kernel
theorem dX8_parse_15 : decode cX8_parse 15 = .ok (.astore_n 2, 1) := by decide +kernel
theorem dX8_parse_16 : decode cX8_parse 16 = .ok (.iload_n 1, 1) := by decide +kernel
theorem dX8_parse_17 : decode cX8_parse 17 = .ok (.aload_n 2, 1) := by decide +kernel
theorem dX8_parse_18 : decode cX8_parse 18 = .ok (.invokestatic 76, 3) := by decide +kernel
theorem dX8_parse_21 : decode cX8_parse 21 = .ok (.iconst (-1), 1) := by decide +kernel
theorem dX8_parse_22 : decode cX8_parse 22 = .ok (.if_icmp .ne 10, 3) := by decide +kernel
theorem dX8_parse_25 : decode cX8_parse 25 = .ok (.aload_n 2, 1) := by decide +kernel
theorem dX8_parse_26 : decode cX8_parse 26 = .ok (.getfield 73, 3) := by decide +kernel
theorem dX8_parse_29 : decode cX8_parse 29 = .ok (.goto 4, 3) := by decide +kernel
theorem dX8_parse_32 : decode cX8_parse 32 = .ok (.iconst 0, 1) := by decide +kernel
theorem dX8_parse_33 : decode cX8_parse 33 = .ok (.istore_n 3, 1) := by decide +kernel
theorem dX8_parse_34 : decode cX8_parse 34 = .ok (.iload_n 1, 1) := by decide +kernel
theorem dX8_parse_35 : decode cX8_parse 35 = .ok (.ifCond .ne 15, 3) := by decide +kernel
theorem dX8_parse_38 : decode cX8_parse 38 = .ok (.aload_n 0, 1) := by decide +kernel
theorem dX8_parse_39 : decode cX8_parse 39 = .ok (.getfield 29, 3) := by decide +kernel
theorem dX8_parse_42 : decode cX8_parse 42 = .ok (.aload_n 2, 1) := by decide +kernel
theorem dX8_parse_43 : decode cX8_parse 43 = .ok (.iload_n 3, 1) := by decide +kernel
theorem dX8_parse_44 : decode cX8_parse 44 = .ok (.invokevirtual 331, 3) := by decide +kernel
theorem dX8_parse_47 : decode cX8_parse 47 = .ok (.goto 29, 3) := by decide +kernel
theorem dX8_parse_50 : decode cX8_parse 50 = .ok (.iload_n 1, 1) := by decide +kernel
theorem dX8_parse_51 : decode cX8_parse 51 = .ok (.iconst 1, 1) := by decide +kernel
theorem dX8_parse_52 : decode cX8_parse 52 = .ok (.if_icmp .ne 15, 3) := by decide +kernel
theorem dX8_parse_55 : decode cX8_parse 55 = .ok (.aload_n 0, 1) := by decide +kernel
theorem dX8_parse_56 : decode cX8_parse 56 = .ok (.getfield 21, 3) := by decide +kernel
theorem dX8_parse_59 : decode cX8_parse 59 = .ok (.aload_n 2, 1) := by decide +kernel
theorem dX8_parse_60 : decode cX8_parse 60 = .ok (.iload_n 3, 1) := by decide +kernel
theorem dX8_parse_61 : decode cX8_parse 61 = .ok (.invokevirtual 334, 3) := by decide +kernel
theorem dX8_parse_64 : decode cX8_parse 64 = .ok (.goto 12, 3) := by decide +kernel
theorem dX8_parse_67 : decode cX8_parse 67 = .ok (.aload_n 0, 1) := by decide +kernel
theorem dX8_parse_68 : decode cX8_parse 68 = .ok (.getfield 33, 3) := by decide +kernel
theorem dX8_parse_71 : decode cX8_parse 71 = .ok (.aload_n 2, 1) := by decide +kernel
theorem dX8_parse_72 : decode cX8_parse 72 = .ok (.iload_n 3, 1) := by decide +kernel
theorem dX8_parse_73 : decode cX8_parse 73 = .ok (.invokevirtual 335, 3) := by decide +kernel
theorem dX8_parse_76 : decode cX8_parse 76 = .ok (.aload_n 0, 1) := by decide +kernel
theorem dX8_parse_77 : decode cX8_parse 77 = .ok (.getfield 21, 3) := by decide +kernel
theorem dX8_parse_80 : decode cX8_parse 80 = .ok (.invokevirtual 114, 3) := by decide +kernel
theorem dX8_parse_83 : decode cX8_parse 83 = .ok (.return_, 1) := by decide +kernel
def fX8_parse_L76 (a1 : Int32) (h : fd_H) : Option (fd_H) :=
(fX7_settle h).bind fun h2 =>
some h2
set_option maxRecDepth 100000 in
set_option maxHeartbeats 4000000 in
theorem sX8_parse_L76 {g : fd_G} {hm : fd_H} {a1 : Int32} {r : fd_H} : ∀ (h : fd_H), fX8_parse_L76 a1 h = some r → fd_A g mX8_parse fd_E (fd_rm 4 0 0) (fd_Q g none fd_X0 (fd_mx r hm) 0 0) 76 [(0, .ref (g.2.2.2 + 0))] [] fd_X0 (fd_mx h hm) 0 0 := by
  intro h hf
  unfold fX8_parse_L76 at hf
  refine fr_aload_n (pc := 76) dX8_parse_76 0 rfl rfl ?_
  refine fr_getR (pc := 77) dX8_parse_77 fl_X8_21 (by decide) rfl rfl ?_
  obtain ⟨h2, hc1, hf⟩ := fd_bi hf
  refine fr_callVv (pc := 80) (av := []) dX8_parse_80 yy_X7_settle kw_373 (by decide) rfl rfl rfl rfl (Nat.le_of_ble_eq_true rfl) ⟨Nat.le_of_ble_eq_true rfl, Nat.le_of_ble_eq_true rfl, Nat.zero_le _, Nat.zero_le _⟩ (sX7_settle hc1) ?_
  exact vx_vretW (pc := 83) dX8_parse_83 rfl hf
def fX8_parse_L33 (a1 : Int32) (v2 : Nat) (nv2 : Nat) (vs0 : Int32) (h : fd_H) : Option (fd_H) :=
if a1 = 0 then (
(fX2_parse v2 nv2 vs0 h).bind fun h8 =>
fX8_parse_L76 a1 h8)
else (
if a1 = (1 : Int32) then (
(fX7_parse v2 nv2 vs0 h).bind fun h6 =>
fX8_parse_L76 a1 h6)
else (
(fX0_parse v2 nv2 vs0 h).bind fun h4 =>
fX8_parse_L76 a1 h4))
set_option maxRecDepth 100000 in
set_option maxHeartbeats 4000000 in
theorem sX8_parse_L33 {g : fd_G} {hm : fd_H} {a1 : Int32} {r : fd_H} : ∀ (v2 : Nat) (nv2 : Nat) (vs0 : Int32) (h : fd_H) (pv2 : fd_isText v2 nv2), fX8_parse_L33 a1 v2 nv2 vs0 h = some r → fd_A g mX8_parse fd_E (fd_rm 4 0 0) (fd_Q g none fd_X0 (fd_mx r hm) 0 0) 33 [(0, .ref (g.2.2.2 + 0)), (1, .int a1), (2, .ref (g.2.2.2 + v2))] [.int vs0] fd_X0 (fd_mx h hm) 0 0 := by
  intro v2 nv2 vs0 h pv2 hf
  unfold fX8_parse_L33 at hf
  refine fr_istore_n (pc := 33) (lv' := [(3, .int vs0), (0, .ref (g.2.2.2 + 0)), (1, .int a1), (2, .ref (g.2.2.2 + v2))]) dX8_parse_33 rfl (by decide) rfl ?_
  refine fr_iload_n (pc := 34) dX8_parse_34 2 rfl rfl ?_
  refine fr_if_ne (pc := 35) 50 dX8_parse_35 (by decide) (fun c1 => ?_) (fun c1 => ?_)
  · have hf := fd_f c1 hf
    refine fr_iload_n (pc := 50) dX8_parse_50 2 rfl rfl ?_
    refine fr_iconst (pc := 51) (v := (1 : Int32)) dX8_parse_51 (by decide) ?_
    refine fr_icmp_ne (pc := 52) 67 dX8_parse_52 (by decide) (fun c2 => ?_) (fun c2 => ?_)
    · have hf := fd_f c2 hf
      refine fr_aload_n (pc := 67) dX8_parse_67 1 rfl rfl ?_
      refine fr_getR (pc := 68) dX8_parse_68 fl_X8_33 (by decide) rfl rfl ?_
      refine fr_aload_n (pc := 71) dX8_parse_71 3 rfl rfl ?_
      refine fr_iload_n (pc := 72) dX8_parse_72 0 rfl rfl ?_
      obtain ⟨h4, hc3, hf⟩ := fd_bi hf
      refine fr_callVv (pc := 73) (av := [.ref (g.2.2.2 + v2), .int vs0]) dX8_parse_73 yy_X0_parse kw_401 (by decide) rfl rfl rfl rfl (Nat.le_of_ble_eq_true rfl) ⟨Nat.le_of_ble_eq_true rfl, Nat.le_of_ble_eq_true rfl, Nat.zero_le _, Nat.zero_le _⟩ (sX0_parse pv2 hc3) ?_
      refine fr_loc (lv' := [(0, .ref (g.2.2.2 + 0))]) [1] rfl ?_
      exact sX8_parse_L76  _ hf
    · have hf := fd_t c2 hf
      refine fr_aload_n (pc := 55) dX8_parse_55 1 rfl rfl ?_
      refine fr_getR (pc := 56) dX8_parse_56 fl_X8_21 (by decide) rfl rfl ?_
      refine fr_aload_n (pc := 59) dX8_parse_59 3 rfl rfl ?_
      refine fr_iload_n (pc := 60) dX8_parse_60 0 rfl rfl ?_
      obtain ⟨h6, hc5, hf⟩ := fd_bi hf
      refine fr_callVv (pc := 61) (av := [.ref (g.2.2.2 + v2), .int vs0]) dX8_parse_61 yy_X7_parse kw_405 (by decide) rfl rfl rfl rfl (Nat.le_of_ble_eq_true rfl) ⟨Nat.le_of_ble_eq_true rfl, Nat.le_of_ble_eq_true rfl, Nat.zero_le _, Nat.zero_le _⟩ (sX7_parse pv2 hc5) ?_
      refine fr_goto (pc := 64) 76 dX8_parse_64 (by decide) ?_
      refine fr_loc (lv' := [(0, .ref (g.2.2.2 + 0))]) [1] rfl ?_
      exact sX8_parse_L76  _ hf
  · have hf := fd_t c1 hf
    refine fr_aload_n (pc := 38) dX8_parse_38 1 rfl rfl ?_
    refine fr_getR (pc := 39) dX8_parse_39 fl_X8_29 (by decide) rfl rfl ?_
    refine fr_aload_n (pc := 42) dX8_parse_42 3 rfl rfl ?_
    refine fr_iload_n (pc := 43) dX8_parse_43 0 rfl rfl ?_
    obtain ⟨h8, hc7, hf⟩ := fd_bi hf
    refine fr_callVv (pc := 44) (av := [.ref (g.2.2.2 + v2), .int vs0]) dX8_parse_44 yy_X2_parse kw_409 (by decide) rfl rfl rfl rfl (Nat.le_of_ble_eq_true rfl) ⟨Nat.le_of_ble_eq_true rfl, Nat.le_of_ble_eq_true rfl, Nat.zero_le _, Nat.zero_le _⟩ (sX2_parse pv2 hc7) ?_
    refine fr_goto (pc := 47) 76 dX8_parse_47 (by decide) ?_
    refine fr_loc (lv' := [(0, .ref (g.2.2.2 + 0))]) [1] rfl ?_
    exact sX8_parse_L76  _ hf
def fX8_parse (a1 : Int32) (h : fd_H) : Option (fd_H) :=
(fX8_isBelow a1 (3 : Int32)).bind fun r2 =>
if r2 = true then (
fd_g (fd_in a1 3) (
(fX8_faultOf a1 (2 + 3 * a1.toNatClampNeg) (fd_tn a1) h).bind fun r6 =>
if r6 = (-1 : Int32) then (
fX8_parse_L33 a1 (2 + 3 * a1.toNatClampNeg) (fd_tn a1) (h.1 (2 + 3 * a1.toNatClampNeg) 2) h)
else (
fX8_parse_L33 a1 (2 + 3 * a1.toNatClampNeg) (fd_tn a1) (0 : Int32) h)))
else (
some h)
set_option maxRecDepth 100000 in
set_option maxHeartbeats 4000000 in
theorem sX8_parse {g : fd_G} {hm : fd_H} {a1 : Int32} {r : fd_H} {h : fd_H} (hf : fX8_parse a1 h = some r) : fd_S g mX8_parse 4 [.ref (g.2.2.2 + 0), .int a1] fd_X0 (fd_mx h hm) none fd_X0 (fd_mx r hm) 0 0 := by
  refine fd_S.of (by decide +kernel) (Nat.le_of_ble_eq_true rfl) ?_
  unfold fX8_parse at hf
  refine fr_loc (lv' := [(0, .ref (g.2.2.2 + 0)), (1, .int a1)]) [0, 1] rfl ?_
  refine fr_iload_n (pc := 0) dX8_parse_0 1 rfl rfl ?_
  refine fr_iconst (pc := 1) (v := (3 : Int32)) dX8_parse_1 (by decide) ?_
  obtain ⟨r2, hc1, hf⟩ := fd_bi hf
  refine fr_callSz (pc := 2) (av := [.int a1, .int (3 : Int32)]) dX8_parse_2 yy_X8_isBelow kw_111 rfl rfl (Nat.le_of_ble_eq_true rfl) ⟨Nat.le_of_ble_eq_true rfl, Nat.le_of_ble_eq_true rfl, Nat.zero_le _, Nat.zero_le _⟩ (sX8_isBelow hc1) ?_
  refine fr_bn (pc := 5) 9 dX8_parse_5 (by decide) (fun c3 => ?_) (fun c3 => ?_)
  · have hf := fd_t c3 hf
    refine fr_aload_n (pc := 9) dX8_parse_9 0 rfl rfl ?_
    refine fr_getR (pc := 10) dX8_parse_10 fl_X8_14 (by decide) rfl rfl ?_
    refine fr_iload_n (pc := 13) dX8_parse_13 1 rfl rfl ?_
    obtain ⟨g4, hf⟩ := fd_g_e hf
    refine fr_aaldT (pc := 14) dX8_parse_14 (by decide) rfl g4 rfl ?_
    refine fr_astore_n (pc := 15) (lv' := [(2, .ref (g.2.2.2 + (2 + 3 * a1.toNatClampNeg))), (0, .ref (g.2.2.2 + 0)), (1, .int a1)]) dX8_parse_15 rfl (by decide) rfl ?_
    refine fr_iload_n (pc := 16) dX8_parse_16 2 rfl rfl ?_
    refine fr_aload_n (pc := 17) dX8_parse_17 0 rfl rfl ?_
    obtain ⟨r6, hc5, hf⟩ := fd_bi hf
    refine fr_callSi (pc := 18) (av := [.int a1, .ref (g.2.2.2 + (2 + 3 * a1.toNatClampNeg))]) dX8_parse_18 yy_X8_faultOf kw_368 rfl rfl (Nat.le_of_ble_eq_true rfl) ⟨Nat.le_of_ble_eq_true rfl, Nat.le_of_ble_eq_true rfl, Nat.zero_le _, Nat.zero_le _⟩ (sX8_faultOf (fd_isTextA g4) hc5) ?_
    refine fr_iconst (pc := 21) (v := (-1 : Int32)) dX8_parse_21 (by decide) ?_
    refine fr_icmp_ne (pc := 22) 32 dX8_parse_22 (by decide) (fun c7 => ?_) (fun c7 => ?_)
    · have hf := fd_f c7 hf
      refine fr_iconst (pc := 32) (v := (0 : Int32)) dX8_parse_32 (by decide) ?_
      refine fr_loc (lv' := [(0, .ref (g.2.2.2 + 0)), (1, .int a1), (2, .ref (g.2.2.2 + (2 + 3 * a1.toNatClampNeg)))]) [1, 2, 0] rfl ?_
      exact sX8_parse_L33  _ _ _ _ (fd_isTextA g4) hf
    · have hf := fd_t c7 hf
      refine fr_aload_n (pc := 25) dX8_parse_25 0 rfl rfl ?_
      refine vx_getI (pc := 26) dX8_parse_26 fl_X8_73 (fd_isTextA g4).b (fd_isTextA g4).x (fd_isTextA g4).s rfl ?_
      refine fr_goto (pc := 29) 33 dX8_parse_29 (by decide) ?_
      refine fr_loc (lv' := [(0, .ref (g.2.2.2 + 0)), (1, .int a1), (2, .ref (g.2.2.2 + (2 + 3 * a1.toNatClampNeg)))]) [1, 2, 0] rfl ?_
      exact sX8_parse_L33  _ _ _ _ (fd_isTextA g4) hf
  · have hf := fd_f c3 hf
    exact vx_vretW (pc := 8) dX8_parse_8 rfl hf
theorem dX8_addMark_0 : decode cX8_addMark 0 = .ok (.aload_n 1, 1) := by decide +kernel
theorem dX8_addMark_1 : decode cX8_addMark 1 = .ok (.iload_n 2, 1) := by decide +kernel
theorem dX8_addMark_2 : decode cX8_addMark 2 = .ok (.iload_n 3, 1) := by decide +kernel
theorem dX8_addMark_3 : decode cX8_addMark 3 = .ok (.iconst 1, 1) := by decide +kernel
theorem dX8_addMark_4 : decode cX8_addMark 4 = .ok (.invokevirtual 189, 3) := by decide +kernel
theorem dX8_addMark_7 : decode cX8_addMark 7 = .ok (.ifCond .ne 6, 3) := by decide +kernel
theorem dX8_addMark_10 : decode cX8_addMark 10 = .ok (.bipush (-4), 2) := by decide +kernel
theorem dX8_addMark_12 : decode cX8_addMark 12 = .ok (.ireturn, 1) := by decide +kernel
theorem dX8_addMark_13 : decode cX8_addMark 13 = .ok (.aload_n 0, 1) := by decide +kernel
theorem dX8_addMark_14 : decode cX8_addMark 14 = .ok (.getfield 21, 3) := by decide +kernel
theorem dX8_addMark_17 : decode cX8_addMark 17 = .ok (.invokevirtual 114, 3) := by decide +kernel
theorem dX8_addMark_20 : decode cX8_addMark 20 = .ok (.aload_n 1, 1) := by decide +kernel
theorem dX8_addMark_21 : decode cX8_addMark 21 = .ok (.getfield 130, 3) := by decide +kernel
theorem dX8_addMark_24 : decode cX8_addMark 24 = .ok (.ireturn, 1) := by decide +kernel
def fX8_addMark (k1 : Nat) (a2 : Int32) (a3 : Int32) (h : fd_H) : Option (Int32 × fd_H) :=
(fX1_add k1 a2 a3 (1 : Int32) h).bind fun q2 =>
if q2.1 = true then (
(fX7_settle q2.2).bind fun h5 =>
some ((h5.1 k1 3), h5))
else (
some ((-4 : Int32), q2.2))
set_option maxRecDepth 100000 in
set_option maxHeartbeats 4000000 in
theorem sX8_addMark {g : fd_G} {hm : fd_H} {k1 : Nat} {a2 : Int32} {a3 : Int32} {r : Int32 × fd_H} (p1 : fd_isMarks k1) {h : fd_H} (hf : fX8_addMark k1 a2 a3 h = some r) : fd_S g mX8_addMark 4 [.ref (g.2.2.2 + 0), .ref (g.2.2.2 + k1), .int a2, .int a3] fd_X0 (fd_mx h hm) (some (.int r.1)) fd_X0 (fd_mx r.2 hm) 0 0 := by
  refine fd_S.of (by decide +kernel) (Nat.le_of_ble_eq_true rfl) ?_
  unfold fX8_addMark at hf
  refine fr_loc (lv' := [(0, .ref (g.2.2.2 + 0)), (1, .ref (g.2.2.2 + k1)), (2, .int a2), (3, .int a3)]) [0, 1, 2, 3] rfl ?_
  refine fr_aload_n (pc := 0) dX8_addMark_0 1 rfl rfl ?_
  refine fr_iload_n (pc := 1) dX8_addMark_1 2 rfl rfl ?_
  refine fr_iload_n (pc := 2) dX8_addMark_2 3 rfl rfl ?_
  refine fr_iconst (pc := 3) (v := (1 : Int32)) dX8_addMark_3 (by decide) ?_
  obtain ⟨q2, hc1, hf⟩ := fd_bi hf
  refine fr_callVz (pc := 4) (av := [.int a2, .int a3, .int (1 : Int32)]) dX8_addMark_4 yy_X1_add kw_209 p1.b p1.s rfl rfl rfl (Nat.le_of_ble_eq_true rfl) ⟨Nat.le_of_ble_eq_true rfl, Nat.le_of_ble_eq_true rfl, Nat.zero_le _, Nat.zero_le _⟩ (sX1_add p1 hc1) ?_
  refine fr_bn (pc := 7) 13 dX8_addMark_7 (by decide) (fun c3 => ?_) (fun c3 => ?_)
  · have hf := fd_t c3 hf
    refine fr_aload_n (pc := 13) dX8_addMark_13 0 rfl rfl ?_
    refine fr_getR (pc := 14) dX8_addMark_14 fl_X8_21 (by decide) rfl rfl ?_
    obtain ⟨h5, hc4, hf⟩ := fd_bi hf
    refine fr_callVv (pc := 17) (av := []) dX8_addMark_17 yy_X7_settle kw_373 (by decide) rfl rfl rfl rfl (Nat.le_of_ble_eq_true rfl) ⟨Nat.le_of_ble_eq_true rfl, Nat.le_of_ble_eq_true rfl, Nat.zero_le _, Nat.zero_le _⟩ (sX7_settle hc4) ?_
    refine fr_aload_n (pc := 20) dX8_addMark_20 1 rfl rfl ?_
    refine vx_getI (pc := 21) dX8_addMark_21 fl_X8_130 p1.b p1.x p1.s rfl ?_
    exact vx_iretW (x := (h5.1 k1 3)) (pc := 24) dX8_addMark_24 rfl hf
  · have hf := fd_f c3 hf
    refine fr_bipush (pc := 10) (v := (-4 : Int32)) dX8_addMark_10 (by decide) ?_
    exact vx_iretW (x := (-4 : Int32)) (pc := 12) dX8_addMark_12 rfl hf
theorem dX8_sumOfAll_0 : decode cX8_sumOfAll 0 = .ok (.iconst 0, 1) := by decide +kernel
theorem dX8_sumOfAll_1 : decode cX8_sumOfAll 1 = .ok (.istore_n 2, 1) := by decide +kernel
theorem dX8_sumOfAll_2 : decode cX8_sumOfAll 2 = .ok (.iconst 0, 1) := by decide +kernel
theorem dX8_sumOfAll_3 : decode cX8_sumOfAll 3 = .ok (.istore_n 3, 1) := by decide +kernel
theorem dX8_sumOfAll_4 : decode cX8_sumOfAll 4 = .ok (.iload_n 3, 1) := by decide +kernel
theorem dX8_sumOfAll_5 : decode cX8_sumOfAll 5 = .ok (.bipush 6, 2) := by decide +kernel
theorem dX8_sumOfAll_7 : decode cX8_sumOfAll 7 = .ok (.if_icmp .ge 19, 3) := by decide +kernel
theorem dX8_sumOfAll_10 : decode cX8_sumOfAll 10 = .ok (.iload_n 2, 1) := by decide +kernel
theorem dX8_sumOfAll_11 : decode cX8_sumOfAll 11 = .ok (.aload_n 0, 1) := by decide +kernel
theorem dX8_sumOfAll_12 : decode cX8_sumOfAll 12 = .ok (.iload_n 3, 1) := by decide +kernel
theorem dX8_sumOfAll_13 : decode cX8_sumOfAll 13 = .ok (.iload_n 1, 1) := by decide +kernel
theorem dX8_sumOfAll_14 : decode cX8_sumOfAll 14 = .ok (.iconst 0, 1) := by decide +kernel
theorem dX8_sumOfAll_15 : decode cX8_sumOfAll 15 = .ok (.invokevirtual 164, 3) := by decide +kernel
theorem dX8_sumOfAll_18 : decode cX8_sumOfAll 18 = .ok (.iadd, 1) := by decide +kernel
theorem dX8_sumOfAll_19 : decode cX8_sumOfAll 19 = .ok (.istore_n 2, 1) := by decide +kernel
theorem dX8_sumOfAll_20 : decode cX8_sumOfAll 20 = .ok (.iinc 3 1, 3) := by decide +kernel
theorem dX8_sumOfAll_23 : decode cX8_sumOfAll 23 = .ok (.goto (-19), 3) := by decide +kernel
theorem dX8_sumOfAll_26 : decode cX8_sumOfAll 26 = .ok (.iload_n 2, 1) := by decide +kernel
theorem dX8_sumOfAll_27 : decode cX8_sumOfAll 27 = .ok (.ireturn, 1) := by decide +kernel
def fX8_sumOfAll_L4 (a1 : Int32) (h : fd_H) : Nat → Int32 → Int32 → Option (Int32)
  | 0 => fun _ _ => none
  | n + 1 => fun v2 v3 =>
if (6 : Int32) ≤ v3 then (
some (v2))
else (
(fX8_sumOf v3 a1 (0 : Int32) h).bind fun r3 =>
fd_lt ((v2 + r3)) fun x4 =>
fX8_sumOfAll_L4 a1 h n x4 (v3 + (1 : Int32)))
set_option maxRecDepth 100000 in
set_option maxHeartbeats 4000000 in
theorem sX8_sumOfAll_L4 {g : fd_G} {hm : fd_H} {a1 : Int32} {h : fd_H} {r : Int32} : ∀ (n : Nat) (v2 : Int32) (v3 : Int32), fX8_sumOfAll_L4 a1 h n v2 v3 = some r → fd_A g mX8_sumOfAll fd_E (fd_rm 4 0 0) (fd_Q g (some (.int r)) fd_X0 (fd_mx h hm) 0 0) 4 [(0, .ref (g.2.2.2 + 0)), (1, .int a1), (2, .int v2), (3, .int v3)] [] fd_X0 (fd_mx h hm) 0 0 := by
  intro n
  induction n with
  | zero =>
    intro _ _ hf
    cases hf
  | succ n ih =>
    intro v2 v3 hf
    rw [fX8_sumOfAll_L4] at hf
    refine fr_iload_n (pc := 4) dX8_sumOfAll_4 3 rfl rfl ?_
    refine fr_bipush (pc := 5) (v := (6 : Int32)) dX8_sumOfAll_5 (by decide) ?_
    refine fr_icmp_ge (pc := 7) 26 dX8_sumOfAll_7 (by decide) (fun c1 => ?_) (fun c1 => ?_)
    · have hf := fd_t c1 hf
      refine fr_iload_n (pc := 26) dX8_sumOfAll_26 2 rfl rfl ?_
      exact fr_iretP (x := v2) (pc := 27) dX8_sumOfAll_27 rfl hf
    · have hf := fd_f c1 hf
      refine fr_iload_n (pc := 10) dX8_sumOfAll_10 2 rfl rfl ?_
      refine fr_aload_n (pc := 11) dX8_sumOfAll_11 0 rfl rfl ?_
      refine fr_iload_n (pc := 12) dX8_sumOfAll_12 3 rfl rfl ?_
      refine fr_iload_n (pc := 13) dX8_sumOfAll_13 1 rfl rfl ?_
      refine fr_iconst (pc := 14) (v := (0 : Int32)) dX8_sumOfAll_14 (by decide) ?_
      obtain ⟨r3, hc2, hf⟩ := fd_bi hf
      refine fr_callVi (pc := 15) (av := [.int v3, .int a1, .int (0 : Int32)]) dX8_sumOfAll_15 yy_X8_sumOf kw_385 (by decide) rfl rfl rfl rfl (Nat.le_of_ble_eq_true rfl) ⟨Nat.le_of_ble_eq_true rfl, Nat.le_of_ble_eq_true rfl, Nat.zero_le _, Nat.zero_le _⟩ (sX8_sumOf hc2) ?_
      refine fr_iadd (pc := 18) dX8_sumOfAll_18 ?_
      obtain ⟨x4, ex4, hf⟩ := fd_lt_e hf
      refine fr_nmi ex4 ?_
      refine fr_istore_n (pc := 19) (lv' := [(2, .int x4), (0, .ref (g.2.2.2 + 0)), (1, .int a1), (3, .int v3)]) dX8_sumOfAll_19 rfl (by decide) rfl ?_
      refine fr_iinc (pc := 20) (v := (v3 + (1 : Int32))) (lv' := [(3, .int (v3 + (1 : Int32))), (2, .int x4), (0, .ref (g.2.2.2 + 0)), (1, .int a1)]) dX8_sumOfAll_20 3 rfl rfl (by decide) rfl ?_
      refine fr_goto (pc := 23) 4 dX8_sumOfAll_23 (by decide) ?_
      refine fr_loc (lv' := [(0, .ref (g.2.2.2 + 0)), (1, .int a1), (2, .int x4), (3, .int (v3 + (1 : Int32)))]) [2, 3, 1, 0] rfl ?_
      exact ih _ _ hf
def fX8_sumOfAll (a1 : Int32) (h : fd_H) : Option (Int32) :=
fX8_sumOfAll_L4 a1 h fd_fu (0 : Int32) (0 : Int32)
set_option maxRecDepth 100000 in
set_option maxHeartbeats 4000000 in
theorem sX8_sumOfAll {g : fd_G} {hm : fd_H} {a1 : Int32} {h : fd_H} {r : Int32} (hf : fX8_sumOfAll a1 h = some r) : fd_S g mX8_sumOfAll 4 [.ref (g.2.2.2 + 0), .int a1] fd_X0 (fd_mx h hm) (some (.int r)) fd_X0 (fd_mx h hm) 0 0 := by
  refine fd_S.of (by decide +kernel) (Nat.le_of_ble_eq_true rfl) ?_
  unfold fX8_sumOfAll at hf
  refine fr_loc (lv' := [(0, .ref (g.2.2.2 + 0)), (1, .int a1)]) [0, 1] rfl ?_
  refine fr_iconst (pc := 0) (v := (0 : Int32)) dX8_sumOfAll_0 (by decide) ?_
  refine fr_istore_n (pc := 1) (lv' := [(2, .int (0 : Int32)), (0, .ref (g.2.2.2 + 0)), (1, .int a1)]) dX8_sumOfAll_1 rfl (by decide) rfl ?_
  refine fr_iconst (pc := 2) (v := (0 : Int32)) dX8_sumOfAll_2 (by decide) ?_
  refine fr_istore_n (pc := 3) (lv' := [(3, .int (0 : Int32)), (2, .int (0 : Int32)), (0, .ref (g.2.2.2 + 0)), (1, .int a1)]) dX8_sumOfAll_3 rfl (by decide) rfl ?_
  refine fr_loc (lv' := [(0, .ref (g.2.2.2 + 0)), (1, .int a1), (2, .int (0 : Int32)), (3, .int (0 : Int32))]) [2, 3, 1, 0] rfl ?_
  exact sX8_sumOfAll_L4 _  _ _ hf
