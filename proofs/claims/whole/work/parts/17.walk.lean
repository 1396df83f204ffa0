theorem dX9_askOf_0 : decode cX9_askOf 0 = .ok (.aload_n 0, 1) := by decide +kernel
theorem dX9_askOf_1 : decode cX9_askOf 1 = .ok (.iload_n 1, 1) := by decide +kernel
theorem dX9_askOf_2 : decode cX9_askOf 2 = .ok (.invokevirtual 251, 3) := by decide +kernel
theorem dX9_askOf_5 : decode cX9_askOf 5 = .ok (.istore_n 2, 1) := by decide +kernel
theorem dX9_askOf_6 : decode cX9_askOf 6 = .ok (.aload_n 0, 1) := by decide +kernel
theorem dX9_askOf_7 : decode cX9_askOf 7 = .ok (.getfield 22, 3) := by decide +kernel
theorem dX9_askOf_10 : decode cX9_askOf 10 = .ok (.iload_n 1, 1) := by decide +kernel
theorem dX9_askOf_11 : decode cX9_askOf 11 = .ok (.iaload, 1) := by decide +kernel
theorem dX9_askOf_12 : decode cX9_askOf 12 = .ok (.istore_n 3, 1) := by decide +kernel
theorem dX9_askOf_13 : decode cX9_askOf 13 = .ok (.iconst (-1), 1) := by decide +kernel
theorem dX9_askOf_14 : decode cX9_askOf 14 = .ok (.istore 4, 2) := by decide +kernel
theorem dX9_askOf_16 : decode cX9_askOf 16 = .ok (.iconst 0, 1) := by decide +kernel
theorem dX9_askOf_17 : decode cX9_askOf 17 = .ok (.istore 5, 2) := by decide +kernel
theorem dX9_askOf_19 : decode cX9_askOf 19 = .ok (.iconst 0, 1) := by decide +kernel
theorem dX9_askOf_20 : decode cX9_askOf 20 = .ok (.istore 6, 2) := by decide +kernel
theorem dX9_askOf_22 : decode cX9_askOf 22 = .ok (.iload 6, 2) := by decide +kernel
theorem dX9_askOf_24 : decode cX9_askOf 24 = .ok (.aload_n 0, 1) := by decide +kernel
theorem dX9_askOf_25 : decode cX9_askOf 25 = .ok (.getfield 105, 3) := by decide +kernel
theorem dX9_askOf_28 : decode cX9_askOf 28 = .ok (.if_icmp .ge 156, 3) := by decide +kernel
theorem dX9_askOf_31 : decode cX9_askOf 31 = .ok (.iconst 0, 1) := by decide +kernel
theorem dX9_askOf_32 : decode cX9_askOf 32 = .ok (.istore 7, 2) := by decide +kernel
theorem dX9_askOf_34 : decode cX9_askOf 34 = .ok (.iconst 0, 1) := by decide +kernel
theorem dX9_askOf_35 : decode cX9_askOf 35 = .ok (.istore 8, 2) := by decide +kernel
theorem dX9_askOf_37 : decode cX9_askOf 37 = .ok (.iconst 0, 1) := by decide +kernel
theorem dX9_askOf_38 : decode cX9_askOf 38 = .ok (.istore 9, 2) := by decide +kernel
theorem dX9_askOf_40 : decode cX9_askOf 40 = .ok (.iload 9, 2) := by decide +kernel
theorem dX9_askOf_42 : decode cX9_askOf 42 = .ok (.bipush 26, 2) := by decide +kernel
theorem dX9_askOf_44 : decode cX9_askOf 44 = .ok (.if_icmp .ge 70, 3) := by decide +kernel
theorem dX9_askOf_47 : decode cX9_askOf 47 = .ok (.iload_n 2, 1) := by decide +kernel
theorem dX9_askOf_48 : decode cX9_askOf 48 = .ok (.iload 9, 2) := by decide +kernel
theorem dX9_askOf_50 : decode cX9_askOf 50 = .ok (.invokestatic 257, 3) := by decide +kernel
theorem dX9_askOf_53 : decode cX9_askOf 53 = .ok (.ifCond .eq 55, 3) := by decide +kernel
theorem dX9_askOf_56 : decode cX9_askOf 56 = .ok (.aload_n 0, 1) := by decide +kernel
theorem dX9_askOf_57 : decode cX9_askOf 57 = .ok (.getfield 22, 3) := by decide +kernel
theorem dX9_askOf_60 : decode cX9_askOf 60 = .ok (.iload_n 1, 1) := by decide +kernel
theorem dX9_askOf_61 : decode cX9_askOf 61 = .ok (.iload 9, 2) := by decide +kernel
theorem dX9_askOf_63 : decode cX9_askOf 63 = .ok (.iastore, 1) := by decide +kernel
theorem dX9_askOf_64 : decode cX9_askOf 64 = .ok (.aload_n 0, 1) := by decide +kernel
theorem dX9_askOf_65 : decode cX9_askOf 65 = .ok (.invokevirtual 171, 3) := by decide +kernel
theorem dX9_askOf_68 : decode cX9_askOf 68 = .ok (.iload 7, 2) := by decide +kernel
theorem dX9_askOf_70 : decode cX9_askOf 70 = .ok (.aload_n 0, 1) := by decide +kernel
theorem dX9_askOf_71 : decode cX9_askOf 71 = .ok (.iload 6, 2) := by decide +kernel
theorem dX9_askOf_73 : decode cX9_askOf 73 = .ok (.iload_n 1, 1) := by decide +kernel
theorem dX9_askOf_74 : decode cX9_askOf 74 = .ok (.invokevirtual 186, 3) := by decide +kernel
theorem dX9_askOf_77 : decode cX9_askOf 77 = .ok (.ifCond .eq 7, 3) := by decide +kernel
theorem dX9_askOf_80 : decode cX9_askOf 80 = .ok (.iconst 1, 1) := by decide +kernel
theorem dX9_askOf_81 : decode cX9_askOf 81 = .ok (.goto 4, 3) := by decide +kernel
theorem dX9_askOf_84 : decode cX9_askOf 84 = .ok (.iconst 0, 1) := by decide +kernel
theorem dX9_askOf_85 : decode cX9_askOf 85 = .ok (.iadd, 1) := by decide +kernel
theorem dX9_askOf_86 : decode cX9_askOf 86 = .ok (.istore 7, 2) := by decide +kernel
theorem dX9_askOf_88 : decode cX9_askOf 88 = .ok (.iload 8, 2) := by decide +kernel
theorem dX9_askOf_90 : decode cX9_askOf 90 = .ok (.aload_n 0, 1) := by decide +kernel
theorem dX9_askOf_91 : decode cX9_askOf 91 = .ok (.iload 6, 2) := by decide +kernel
theorem dX9_askOf_93 : decode cX9_askOf 93 = .ok (.iload_n 1, 1) := by decide +kernel
theorem dX9_askOf_94 : decode cX9_askOf 94 = .ok (.invokevirtual 186, 3) := by decide +kernel
theorem dX9_askOf_97 : decode cX9_askOf 97 = .ok (.ifCond .eq 7, 3) := by decide +kernel
theorem dX9_askOf_100 : decode cX9_askOf 100 = .ok (.iconst 0, 1) := by decide +kernel
theorem dX9_askOf_101 : decode cX9_askOf 101 = .ok (.goto 4, 3) := by decide +kernel
theorem dX9_askOf_104 : decode cX9_askOf 104 = .ok (.iconst 1, 1) := by decide +kernel
theorem dX9_askOf_105 : decode cX9_askOf 105 = .ok (.iadd, 1) := by decide +kernel
theorem dX9_askOf_106 : decode cX9_askOf 106 = .ok (.istore 8, 2) := by decide +kernel
theorem dX9_askOf_108 : decode cX9_askOf 108 = .ok (.iinc 9 1, 3) := by decide +kernel
theorem dX9_askOf_111 : decode cX9_askOf 111 = .ok (.goto (-71), 3) := by decide +kernel
theorem dX9_askOf_114 : decode cX9_askOf 114 = .ok (.iload 7, 2) := by decide +kernel
theorem dX9_askOf_116 : decode cX9_askOf 116 = .ok (.iload 8, 2) := by decide +kernel
theorem dX9_askOf_118 : decode cX9_askOf 118 = .ok (.if_icmp .le 8, 3) := by decide +kernel
theorem dX9_askOf_121 : decode cX9_askOf 121 = .ok (.iload 7, 2) := by decide +kernel
theorem dX9_askOf_123 : decode cX9_askOf 123 = .ok (.goto 5, 3) := by decide +kernel
theorem dX9_askOf_126 : decode cX9_askOf 126 = .ok (.iload 8, 2) := by decide +kernel
theorem dX9_askOf_128 : decode cX9_askOf 128 = .ok (.istore 9, 2) := by decide +kernel
theorem dX9_askOf_130 : decode cX9_askOf 130 = .ok (.iload 4, 2) := by decide +kernel
theorem dX9_askOf_132 : decode cX9_askOf 132 = .ok (.iconst (-1), 1) := by decide +kernel
theorem dX9_askOf_133 : decode cX9_askOf 133 = .ok (.if_icmp .eq 10, 3) := by decide +kernel
theorem dX9_askOf_136 : decode cX9_askOf 136 = .ok (.iload 9, 2) := by decide +kernel
theorem dX9_askOf_138 : decode cX9_askOf 138 = .ok (.iload 5, 2) := by decide +kernel
theorem dX9_askOf_140 : decode cX9_askOf 140 = .ok (.if_icmp .ge 7, 3) := by decide +kernel
theorem dX9_askOf_143 : decode cX9_askOf 143 = .ok (.iconst 1, 1) := by decide +kernel
theorem dX9_askOf_144 : decode cX9_askOf 144 = .ok (.goto 4, 3) := by decide +kernel
theorem dX9_askOf_147 : decode cX9_askOf 147 = .ok (.iconst 0, 1) := by decide +kernel
theorem dX9_askOf_148 : decode cX9_askOf 148 = .ok (.istore 10, 2) := by decide +kernel
theorem dX9_askOf_150 : decode cX9_askOf 150 = .ok (.iload 10, 2) := by decide +kernel
theorem dX9_askOf_152 : decode cX9_askOf 152 = .ok (.ifCond .eq 8, 3) := by decide +kernel
theorem dX9_askOf_155 : decode cX9_askOf 155 = .ok (.iload 6, 2) := by decide +kernel
theorem dX9_askOf_157 : decode cX9_askOf 157 = .ok (.goto 5, 3) := by decide +kernel
theorem dX9_askOf_160 : decode cX9_askOf 160 = .ok (.iload 4, 2) := by decide +kernel
theorem dX9_askOf_162 : decode cX9_askOf 162 = .ok (.istore 4, 2) := by decide +kernel
theorem dX9_askOf_164 : decode cX9_askOf 164 = .ok (.iload 10, 2) := by decide +kernel
theorem dX9_askOf_166 : decode cX9_askOf 166 = .ok (.ifCond .eq 8, 3) := by decide +kernel
theorem dX9_askOf_169 : decode cX9_askOf 169 = .ok (.iload 9, 2) := by decide +kernel
theorem dX9_askOf_171 : decode cX9_askOf 171 = .ok (.goto 5, 3) := by decide +kernel
theorem dX9_askOf_174 : decode cX9_askOf 174 = .ok (.iload 5, 2) := by decide +kernel
theorem dX9_askOf_176 : decode cX9_askOf 176 = .ok (.istore 5, 2) := by decide +kernel
theorem dX9_askOf_178 : decode cX9_askOf 178 = .ok (.iinc 6 1, 3) := by decide +kernel
theorem dX9_askOf_181 : decode cX9_askOf 181 = .ok (.goto (-159), 3) := by decide +kernel
theorem dX9_askOf_184 : decode cX9_askOf 184 = .ok (.aload_n 0, 1) := by decide +kernel
theorem dX9_askOf_185 : decode cX9_askOf 185 = .ok (.getfield 22, 3) := by decide +kernel
theorem dX9_askOf_188 : decode cX9_askOf 188 = .ok (.iload_n 1, 1) := by decide +kernel
theorem dX9_askOf_189 : decode cX9_askOf 189 = .ok (.iload_n 3, 1) := by decide +kernel
theorem dX9_askOf_190 : decode cX9_askOf 190 = .ok (.iastore, 1) := by decide +kernel
theorem dX9_askOf_191 : decode cX9_askOf 191 = .ok (.iload 4, 2) := by decide +kernel
theorem dX9_askOf_193 : decode cX9_askOf 193 = .ok (.ireturn, 1) := by decide +kernel
def fX9_askOf_L176 (a1 : Int32) (K22 : Int32 → Int32 → Int32 → Int32 → Int32 → fd_H → Option (Int32 × fd_H)) (v2 : Int32) (v3 : Int32) (v4 : Int32) (v6 : Int32) (vs0 : Int32) (h : fd_H) : Option (Int32 × fd_H) :=
K22 v2 v3 v4 vs0 (v6 + (1 : Int32)) h
set_option maxRecDepth 100000 in
set_option maxHeartbeats 4000000 in
theorem sX9_askOf_L176 {g : fd_G} {hm : fd_H} {a1 : Int32} {r : Int32 × fd_H} {K22 : Int32 → Int32 → Int32 → Int32 → Int32 → fd_H → Option (Int32 × fd_H)} (hK22 : ∀ (v2 : Int32) (v3 : Int32) (v4 : Int32) (v5 : Int32) (v6 : Int32) (h : fd_H), K22 v2 v3 v4 v5 v6 h = some r → fd_A g mX9_askOf fd_E (fd_rm 8 0 0) (fd_Q g (some (.int r.1)) fd_X0 (fd_mx hm r.2) 0 0) 22 [(0, .ref (g.2.2.2 + 73)), (1, .int a1), (2, .int v2), (3, .int v3), (4, .int v4), (5, .int v5), (6, .int v6)] [] fd_X0 (fd_mx hm h) 0 0) : ∀ (v2 : Int32) (v3 : Int32) (v4 : Int32) (v6 : Int32) (vs0 : Int32) (h : fd_H), fX9_askOf_L176 a1 K22 v2 v3 v4 v6 vs0 h = some r → fd_A g mX9_askOf fd_E (fd_rm 8 0 0) (fd_Q g (some (.int r.1)) fd_X0 (fd_mx hm r.2) 0 0) 176 [(0, .ref (g.2.2.2 + 73)), (1, .int a1), (2, .int v2), (3, .int v3), (4, .int v4), (6, .int v6)] [.int vs0] fd_X0 (fd_mx hm h) 0 0 := by
  intro v2 v3 v4 v6 vs0 h hf
  unfold fX9_askOf_L176 at hf
  refine fr_istore (pc := 176) (lv' := [(5, .int vs0), (0, .ref (g.2.2.2 + 73)), (1, .int a1), (2, .int v2), (3, .int v3), (4, .int v4), (6, .int v6)]) dX9_askOf_176 (by decide) rfl ?_
  refine fr_iinc (pc := 178) (v := (v6 + (1 : Int32))) (lv' := [(6, .int (v6 + (1 : Int32))), (5, .int vs0), (0, .ref (g.2.2.2 + 73)), (1, .int a1), (2, .int v2), (3, .int v3), (4, .int v4)]) dX9_askOf_178 6 rfl rfl (by decide) rfl ?_
  refine fr_goto (pc := 181) 22 dX9_askOf_181 (by decide) ?_
  refine fr_loc (lv' := [(0, .ref (g.2.2.2 + 73)), (1, .int a1), (2, .int v2), (3, .int v3), (4, .int v4), (5, .int vs0), (6, .int (v6 + (1 : Int32)))]) [2, 3, 4, 5, 6, 1, 0] rfl ?_
  exact hK22 _ _ _ _ _ _ hf
def fX9_askOf_L162 (a1 : Int32) (K22 : Int32 → Int32 → Int32 → Int32 → Int32 → fd_H → Option (Int32 × fd_H)) (v2 : Int32) (v3 : Int32) (v5 : Int32) (v6 : Int32) (v9 : Int32) (v10 : Bool) (vs0 : Int32) (h : fd_H) : Option (Int32 × fd_H) :=
if v10 = true then (
fX9_askOf_L176 a1 K22 v2 v3 vs0 v6 v9 h)
else (
fX9_askOf_L176 a1 K22 v2 v3 vs0 v6 v5 h)
set_option maxRecDepth 100000 in
set_option maxHeartbeats 4000000 in
theorem sX9_askOf_L162 {g : fd_G} {hm : fd_H} {a1 : Int32} {r : Int32 × fd_H} {K22 : Int32 → Int32 → Int32 → Int32 → Int32 → fd_H → Option (Int32 × fd_H)} (hK22 : ∀ (v2 : Int32) (v3 : Int32) (v4 : Int32) (v5 : Int32) (v6 : Int32) (h : fd_H), K22 v2 v3 v4 v5 v6 h = some r → fd_A g mX9_askOf fd_E (fd_rm 8 0 0) (fd_Q g (some (.int r.1)) fd_X0 (fd_mx hm r.2) 0 0) 22 [(0, .ref (g.2.2.2 + 73)), (1, .int a1), (2, .int v2), (3, .int v3), (4, .int v4), (5, .int v5), (6, .int v6)] [] fd_X0 (fd_mx hm h) 0 0) : ∀ (v2 : Int32) (v3 : Int32) (v5 : Int32) (v6 : Int32) (v9 : Int32) (v10 : Bool) (vs0 : Int32) (h : fd_H), fX9_askOf_L162 a1 K22 v2 v3 v5 v6 v9 v10 vs0 h = some r → fd_A g mX9_askOf fd_E (fd_rm 8 0 0) (fd_Q g (some (.int r.1)) fd_X0 (fd_mx hm r.2) 0 0) 162 [(0, .ref (g.2.2.2 + 73)), (1, .int a1), (2, .int v2), (3, .int v3), (5, .int v5), (6, .int v6), (9, .int v9), (10, .int (fd_b v10))] [.int vs0] fd_X0 (fd_mx hm h) 0 0 := by
  intro v2 v3 v5 v6 v9 v10 vs0 h hf
  unfold fX9_askOf_L162 at hf
  refine fr_istore (pc := 162) (lv' := [(4, .int vs0), (0, .ref (g.2.2.2 + 73)), (1, .int a1), (2, .int v2), (3, .int v3), (5, .int v5), (6, .int v6), (9, .int v9), (10, .int (fd_b v10))]) dX9_askOf_162 (by decide) rfl ?_
  refine fr_iload (pc := 164) dX9_askOf_164 8 rfl ?_
  refine fr_bz (pc := 166) 174 dX9_askOf_166 (by decide) (fun c1 => ?_) (fun c1 => ?_)
  · have hf := fd_f c1 hf
    refine fr_iload (pc := 174) dX9_askOf_174 5 rfl ?_
    refine fr_loc (lv' := [(0, .ref (g.2.2.2 + 73)), (1, .int a1), (2, .int v2), (3, .int v3), (4, .int vs0), (6, .int v6)]) [1, 2, 3, 4, 0, 6] rfl ?_
    exact sX9_askOf_L176 hK22  _ _ _ _ _ _ hf
  · have hf := fd_t c1 hf
    refine fr_iload (pc := 169) dX9_askOf_169 7 rfl ?_
    refine fr_goto (pc := 171) 176 dX9_askOf_171 (by decide) ?_
    refine fr_loc (lv' := [(0, .ref (g.2.2.2 + 73)), (1, .int a1), (2, .int v2), (3, .int v3), (4, .int vs0), (6, .int v6)]) [1, 2, 3, 4, 0, 6] rfl ?_
    exact sX9_askOf_L176 hK22  _ _ _ _ _ _ hf
def fX9_askOf_L148 (a1 : Int32) (K22 : Int32 → Int32 → Int32 → Int32 → Int32 → fd_H → Option (Int32 × fd_H)) (v2 : Int32) (v3 : Int32) (v4 : Int32) (v5 : Int32) (v6 : Int32) (v9 : Int32) (vs0 : Bool) (h : fd_H) : Option (Int32 × fd_H) :=
if vs0 = true then (
fX9_askOf_L162 a1 K22 v2 v3 v5 v6 v9 vs0 v6 h)
else (
fX9_askOf_L162 a1 K22 v2 v3 v5 v6 v9 vs0 v4 h)
set_option maxRecDepth 100000 in
set_option maxHeartbeats 4000000 in
theorem sX9_askOf_L148 {g : fd_G} {hm : fd_H} {a1 : Int32} {r : Int32 × fd_H} {K22 : Int32 → Int32 → Int32 → Int32 → Int32 → fd_H → Option (Int32 × fd_H)} (hK22 : ∀ (v2 : Int32) (v3 : Int32) (v4 : Int32) (v5 : Int32) (v6 : Int32) (h : fd_H), K22 v2 v3 v4 v5 v6 h = some r → fd_A g mX9_askOf fd_E (fd_rm 8 0 0) (fd_Q g (some (.int r.1)) fd_X0 (fd_mx hm r.2) 0 0) 22 [(0, .ref (g.2.2.2 + 73)), (1, .int a1), (2, .int v2), (3, .int v3), (4, .int v4), (5, .int v5), (6, .int v6)] [] fd_X0 (fd_mx hm h) 0 0) : ∀ (v2 : Int32) (v3 : Int32) (v4 : Int32) (v5 : Int32) (v6 : Int32) (v9 : Int32) (vs0 : Bool) (h : fd_H), fX9_askOf_L148 a1 K22 v2 v3 v4 v5 v6 v9 vs0 h = some r → fd_A g mX9_askOf fd_E (fd_rm 8 0 0) (fd_Q g (some (.int r.1)) fd_X0 (fd_mx hm r.2) 0 0) 148 [(0, .ref (g.2.2.2 + 73)), (1, .int a1), (2, .int v2), (3, .int v3), (4, .int v4), (5, .int v5), (6, .int v6), (9, .int v9)] [.int (fd_b vs0)] fd_X0 (fd_mx hm h) 0 0 := by
  intro v2 v3 v4 v5 v6 v9 vs0 h hf
  unfold fX9_askOf_L148 at hf
  refine fr_istore (pc := 148) (lv' := [(10, .int (fd_b vs0)), (0, .ref (g.2.2.2 + 73)), (1, .int a1), (2, .int v2), (3, .int v3), (4, .int v4), (5, .int v5), (6, .int v6), (9, .int v9)]) dX9_askOf_148 (by decide) rfl ?_
  refine fr_iload (pc := 150) dX9_askOf_150 0 rfl ?_
  refine fr_bz (pc := 152) 160 dX9_askOf_152 (by decide) (fun c1 => ?_) (fun c1 => ?_)
  · have hf := fd_f c1 hf
    refine fr_iload (pc := 160) dX9_askOf_160 5 rfl ?_
    refine fr_loc (lv' := [(0, .ref (g.2.2.2 + 73)), (1, .int a1), (2, .int v2), (3, .int v3), (5, .int v5), (6, .int v6), (9, .int v9), (10, .int (fd_b vs0))]) [1, 2, 3, 4, 6, 7, 8, 0] rfl ?_
    exact sX9_askOf_L162 hK22  _ _ _ _ _ _ _ _ hf
  · have hf := fd_t c1 hf
    refine fr_iload (pc := 155) dX9_askOf_155 7 rfl ?_
    refine fr_goto (pc := 157) 162 dX9_askOf_157 (by decide) ?_
    refine fr_loc (lv' := [(0, .ref (g.2.2.2 + 73)), (1, .int a1), (2, .int v2), (3, .int v3), (5, .int v5), (6, .int v6), (9, .int v9), (10, .int (fd_b vs0))]) [1, 2, 3, 4, 6, 7, 8, 0] rfl ?_
    exact sX9_askOf_L162 hK22  _ _ _ _ _ _ _ _ hf
def fX9_askOf_L128 (a1 : Int32) (K22 : Int32 → Int32 → Int32 → Int32 → Int32 → fd_H → Option (Int32 × fd_H)) (v2 : Int32) (v3 : Int32) (v4 : Int32) (v5 : Int32) (v6 : Int32) (vs0 : Int32) (h : fd_H) : Option (Int32 × fd_H) :=
if v4 = (-1 : Int32) then (
fX9_askOf_L148 a1 K22 v2 v3 v4 v5 v6 vs0 true h)
else (
if v5 ≤ vs0 then (
fX9_askOf_L148 a1 K22 v2 v3 v4 v5 v6 vs0 false h)
else (
fX9_askOf_L148 a1 K22 v2 v3 v4 v5 v6 vs0 true h))
set_option maxRecDepth 100000 in
set_option maxHeartbeats 4000000 in
theorem sX9_askOf_L128 {g : fd_G} {hm : fd_H} {a1 : Int32} {r : Int32 × fd_H} {K22 : Int32 → Int32 → Int32 → Int32 → Int32 → fd_H → Option (Int32 × fd_H)} (hK22 : ∀ (v2 : Int32) (v3 : Int32) (v4 : Int32) (v5 : Int32) (v6 : Int32) (h : fd_H), K22 v2 v3 v4 v5 v6 h = some r → fd_A g mX9_askOf fd_E (fd_rm 8 0 0) (fd_Q g (some (.int r.1)) fd_X0 (fd_mx hm r.2) 0 0) 22 [(0, .ref (g.2.2.2 + 73)), (1, .int a1), (2, .int v2), (3, .int v3), (4, .int v4), (5, .int v5), (6, .int v6)] [] fd_X0 (fd_mx hm h) 0 0) : ∀ (v2 : Int32) (v3 : Int32) (v4 : Int32) (v5 : Int32) (v6 : Int32) (vs0 : Int32) (h : fd_H), fX9_askOf_L128 a1 K22 v2 v3 v4 v5 v6 vs0 h = some r → fd_A g mX9_askOf fd_E (fd_rm 8 0 0) (fd_Q g (some (.int r.1)) fd_X0 (fd_mx hm r.2) 0 0) 128 [(0, .ref (g.2.2.2 + 73)), (1, .int a1), (2, .int v2), (3, .int v3), (4, .int v4), (5, .int v5), (6, .int v6)] [.int vs0] fd_X0 (fd_mx hm h) 0 0 := by
  intro v2 v3 v4 v5 v6 vs0 h hf
  unfold fX9_askOf_L128 at hf
  refine fr_istore (pc := 128) (lv' := [(9, .int vs0), (0, .ref (g.2.2.2 + 73)), (1, .int a1), (2, .int v2), (3, .int v3), (4, .int v4), (5, .int v5), (6, .int v6)]) dX9_askOf_128 (by decide) rfl ?_
  refine fr_iload (pc := 130) dX9_askOf_130 5 rfl ?_
  refine fr_iconst (pc := 132) (v := (-1 : Int32)) dX9_askOf_132 (by decide) ?_
  refine fr_icmp_eq (pc := 133) 143 dX9_askOf_133 (by decide) (fun c1 => ?_) (fun c1 => ?_)
  · have hf := fd_t c1 hf
    refine fr_iconst (pc := 143) (v := (1 : Int32)) dX9_askOf_143 (by decide) ?_
    refine fr_goto (pc := 144) 148 dX9_askOf_144 (by decide) ?_
    refine fr_loc (lv' := [(0, .ref (g.2.2.2 + 73)), (1, .int a1), (2, .int v2), (3, .int v3), (4, .int v4), (5, .int v5), (6, .int v6), (9, .int vs0)]) [1, 2, 3, 4, 5, 6, 7, 0] rfl ?_
    exact sX9_askOf_L148 hK22  _ _ _ _ _ _ _ _ hf
  · have hf := fd_f c1 hf
    refine fr_iload (pc := 136) dX9_askOf_136 0 rfl ?_
    refine fr_iload (pc := 138) dX9_askOf_138 6 rfl ?_
    refine fr_icmp_ge (pc := 140) 147 dX9_askOf_140 (by decide) (fun c2 => ?_) (fun c2 => ?_)
    · have hf := fd_t c2 hf
      refine fr_iconst (pc := 147) (v := (0 : Int32)) dX9_askOf_147 (by decide) ?_
      refine fr_loc (lv' := [(0, .ref (g.2.2.2 + 73)), (1, .int a1), (2, .int v2), (3, .int v3), (4, .int v4), (5, .int v5), (6, .int v6), (9, .int vs0)]) [1, 2, 3, 4, 5, 6, 7, 0] rfl ?_
      exact sX9_askOf_L148 hK22  _ _ _ _ _ _ _ _ hf
    · have hf := fd_f c2 hf
      refine fr_iconst (pc := 143) (v := (1 : Int32)) dX9_askOf_143 (by decide) ?_
      refine fr_goto (pc := 144) 148 dX9_askOf_144 (by decide) ?_
      refine fr_loc (lv' := [(0, .ref (g.2.2.2 + 73)), (1, .int a1), (2, .int v2), (3, .int v3), (4, .int v4), (5, .int v5), (6, .int v6), (9, .int vs0)]) [1, 2, 3, 4, 5, 6, 7, 0] rfl ?_
      exact sX9_askOf_L148 hK22  _ _ _ _ _ _ _ _ hf
def fX9_askOf_L105 (a1 : Int32) (K40 : Int32 → Int32 → Int32 → Int32 → Int32 → Int32 → Int32 → Int32 → fd_H → Option (Int32 × fd_H)) (v2 : Int32) (v3 : Int32) (v4 : Int32) (v5 : Int32) (v6 : Int32) (v7 : Int32) (v9 : Int32) (vs0 : Bool) (vs1 : Int32) (h : fd_H) : Option (Int32 × fd_H) :=
fd_lt ((vs1 + (fd_b vs0))) fun x1 =>
K40 v2 v3 v4 v5 v6 v7 x1 (v9 + (1 : Int32)) h
set_option maxRecDepth 100000 in
set_option maxHeartbeats 4000000 in
theorem sX9_askOf_L105 {g : fd_G} {hm : fd_H} {a1 : Int32} {r : Int32 × fd_H} {K40 : Int32 → Int32 → Int32 → Int32 → Int32 → Int32 → Int32 → Int32 → fd_H → Option (Int32 × fd_H)} (hK40 : ∀ (v2 : Int32) (v3 : Int32) (v4 : Int32) (v5 : Int32) (v6 : Int32) (v7 : Int32) (v8 : Int32) (v9 : Int32) (h : fd_H), K40 v2 v3 v4 v5 v6 v7 v8 v9 h = some r → fd_A g mX9_askOf fd_E (fd_rm 8 0 0) (fd_Q g (some (.int r.1)) fd_X0 (fd_mx hm r.2) 0 0) 40 [(0, .ref (g.2.2.2 + 73)), (1, .int a1), (2, .int v2), (3, .int v3), (4, .int v4), (5, .int v5), (6, .int v6), (7, .int v7), (8, .int v8), (9, .int v9)] [] fd_X0 (fd_mx hm h) 0 0) : ∀ (v2 : Int32) (v3 : Int32) (v4 : Int32) (v5 : Int32) (v6 : Int32) (v7 : Int32) (v9 : Int32) (vs0 : Bool) (vs1 : Int32) (h : fd_H), fX9_askOf_L105 a1 K40 v2 v3 v4 v5 v6 v7 v9 vs0 vs1 h = some r → fd_A g mX9_askOf fd_E (fd_rm 8 0 0) (fd_Q g (some (.int r.1)) fd_X0 (fd_mx hm r.2) 0 0) 105 [(0, .ref (g.2.2.2 + 73)), (1, .int a1), (2, .int v2), (3, .int v3), (4, .int v4), (5, .int v5), (6, .int v6), (7, .int v7), (9, .int v9)] [.int (fd_b vs0), .int vs1] fd_X0 (fd_mx hm h) 0 0 := by
  intro v2 v3 v4 v5 v6 v7 v9 vs0 vs1 h hf
  unfold fX9_askOf_L105 at hf
  refine fr_iadd (pc := 105) dX9_askOf_105 ?_
  obtain ⟨x1, ex1, hf⟩ := fd_lt_e hf
  refine fr_nmi ex1 ?_
  refine fr_istore (pc := 106) (lv' := [(8, .int x1), (0, .ref (g.2.2.2 + 73)), (1, .int a1), (2, .int v2), (3, .int v3), (4, .int v4), (5, .int v5), (6, .int v6), (7, .int v7), (9, .int v9)]) dX9_askOf_106 (by decide) rfl ?_
  refine fr_iinc (pc := 108) (v := (v9 + (1 : Int32))) (lv' := [(9, .int (v9 + (1 : Int32))), (8, .int x1), (0, .ref (g.2.2.2 + 73)), (1, .int a1), (2, .int v2), (3, .int v3), (4, .int v4), (5, .int v5), (6, .int v6), (7, .int v7)]) dX9_askOf_108 9 rfl rfl (by decide) rfl ?_
  refine fr_goto (pc := 111) 40 dX9_askOf_111 (by decide) ?_
  refine fr_loc (lv' := [(0, .ref (g.2.2.2 + 73)), (1, .int a1), (2, .int v2), (3, .int v3), (4, .int v4), (5, .int v5), (6, .int v6), (7, .int v7), (8, .int x1), (9, .int (v9 + (1 : Int32)))]) [2, 3, 4, 5, 6, 7, 8, 9, 1, 0] rfl ?_
  exact hK40 _ _ _ _ _ _ _ _ _ hf
def fX9_askOf_L85 (a1 : Int32) (K40 : Int32 → Int32 → Int32 → Int32 → Int32 → Int32 → Int32 → Int32 → fd_H → Option (Int32 × fd_H)) (v2 : Int32) (v3 : Int32) (v4 : Int32) (v5 : Int32) (v6 : Int32) (v8 : Int32) (v9 : Int32) (vs0 : Bool) (vs1 : Int32) (h : fd_H) : Option (Int32 × fd_H) :=
fd_lt ((vs1 + (fd_b vs0))) fun x1 =>
(fX9_hasHad v6 a1 h).bind fun r3 =>
if r3 = true then (
fX9_askOf_L105 a1 K40 v2 v3 v4 v5 v6 x1 v9 false v8 h)
else (
fX9_askOf_L105 a1 K40 v2 v3 v4 v5 v6 x1 v9 true v8 h)
set_option maxRecDepth 100000 in
set_option maxHeartbeats 4000000 in
theorem sX9_askOf_L85 {g : fd_G} {hm : fd_H} {a1 : Int32} {r : Int32 × fd_H} {K40 : Int32 → Int32 → Int32 → Int32 → Int32 → Int32 → Int32 → Int32 → fd_H → Option (Int32 × fd_H)} (hK40 : ∀ (v2 : Int32) (v3 : Int32) (v4 : Int32) (v5 : Int32) (v6 : Int32) (v7 : Int32) (v8 : Int32) (v9 : Int32) (h : fd_H), K40 v2 v3 v4 v5 v6 v7 v8 v9 h = some r → fd_A g mX9_askOf fd_E (fd_rm 8 0 0) (fd_Q g (some (.int r.1)) fd_X0 (fd_mx hm r.2) 0 0) 40 [(0, .ref (g.2.2.2 + 73)), (1, .int a1), (2, .int v2), (3, .int v3), (4, .int v4), (5, .int v5), (6, .int v6), (7, .int v7), (8, .int v8), (9, .int v9)] [] fd_X0 (fd_mx hm h) 0 0) : ∀ (v2 : Int32) (v3 : Int32) (v4 : Int32) (v5 : Int32) (v6 : Int32) (v8 : Int32) (v9 : Int32) (vs0 : Bool) (vs1 : Int32) (h : fd_H), fX9_askOf_L85 a1 K40 v2 v3 v4 v5 v6 v8 v9 vs0 vs1 h = some r → fd_A g mX9_askOf fd_E (fd_rm 8 0 0) (fd_Q g (some (.int r.1)) fd_X0 (fd_mx hm r.2) 0 0) 85 [(0, .ref (g.2.2.2 + 73)), (1, .int a1), (2, .int v2), (3, .int v3), (4, .int v4), (5, .int v5), (6, .int v6), (8, .int v8), (9, .int v9)] [.int (fd_b vs0), .int vs1] fd_X0 (fd_mx hm h) 0 0 := by
  intro v2 v3 v4 v5 v6 v8 v9 vs0 vs1 h hf
  unfold fX9_askOf_L85 at hf
  refine fr_iadd (pc := 85) dX9_askOf_85 ?_
  obtain ⟨x1, ex1, hf⟩ := fd_lt_e hf
  refine fr_nmi ex1 ?_
  refine fr_istore (pc := 86) (lv' := [(7, .int x1), (0, .ref (g.2.2.2 + 73)), (1, .int a1), (2, .int v2), (3, .int v3), (4, .int v4), (5, .int v5), (6, .int v6), (8, .int v8), (9, .int v9)]) dX9_askOf_86 (by decide) rfl ?_
  refine fr_iload (pc := 88) dX9_askOf_88 8 rfl ?_
  refine fr_aload_n (pc := 90) dX9_askOf_90 1 rfl rfl ?_
  refine fr_iload (pc := 91) dX9_askOf_91 7 rfl ?_
  refine fr_iload_n (pc := 93) dX9_askOf_93 2 rfl rfl ?_
  obtain ⟨r3, hc2, hf⟩ := fd_bi hf
  refine fr_callVz (pc := 94) (av := [.int v6, .int a1]) dX9_askOf_94 yy_X9_hasHad kw_166 (by decide) rfl rfl rfl rfl (Nat.le_of_ble_eq_true rfl) ⟨Nat.le_of_ble_eq_true rfl, Nat.le_of_ble_eq_true rfl, Nat.zero_le _, Nat.zero_le _⟩ (sX9_hasHad hc2) ?_
  refine fr_bz (pc := 97) 104 dX9_askOf_97 (by decide) (fun c4 => ?_) (fun c4 => ?_)
  · have hf := fd_f c4 hf
    refine fr_iconst (pc := 104) (v := (1 : Int32)) dX9_askOf_104 (by decide) ?_
    refine fr_loc (lv' := [(0, .ref (g.2.2.2 + 73)), (1, .int a1), (2, .int v2), (3, .int v3), (4, .int v4), (5, .int v5), (6, .int v6), (7, .int x1), (9, .int v9)]) [1, 2, 3, 4, 5, 6, 7, 0, 9] rfl ?_
    exact sX9_askOf_L105 hK40  _ _ _ _ _ _ _ _ _ _ hf
  · have hf := fd_t c4 hf
    refine fr_iconst (pc := 100) (v := (0 : Int32)) dX9_askOf_100 (by decide) ?_
    refine fr_goto (pc := 101) 105 dX9_askOf_101 (by decide) ?_
    refine fr_loc (lv' := [(0, .ref (g.2.2.2 + 73)), (1, .int a1), (2, .int v2), (3, .int v3), (4, .int v4), (5, .int v5), (6, .int v6), (7, .int x1), (9, .int v9)]) [1, 2, 3, 4, 5, 6, 7, 0, 9] rfl ?_
    exact sX9_askOf_L105 hK40  _ _ _ _ _ _ _ _ _ _ hf
def fX9_askOf_L40 (a1 : Int32) (K22 : Int32 → Int32 → Int32 → Int32 → Int32 → fd_H → Option (Int32 × fd_H)) : Nat → Int32 → Int32 → Int32 → Int32 → Int32 → Int32 → Int32 → Int32 → fd_H → Option (Int32 × fd_H)
  | 0 => fun _ _ _ _ _ _ _ _ _ => none
  | n + 1 => fun v2 v3 v4 v5 v6 v7 v8 v9 h =>
if (26 : Int32) ≤ v9 then (
if v7 ≤ v8 then (
fX9_askOf_L128 a1 K22 v2 v3 v4 v5 v6 v8 h)
else (
fX9_askOf_L128 a1 K22 v2 v3 v4 v5 v6 v7 h))
else (
(fX9_isIn v2 v9).bind fun r4 =>
if r4 = true then (
fd_g (fd_in a1 41) (
fd_lt (fd_ui h 78 a1.toNatClampNeg v9) fun h7 =>
(fX9_lays h7).bind fun h9 =>
(fX9_hasHad v6 a1 h9).bind fun r11 =>
if r11 = true then (
fX9_askOf_L85 a1 (fX9_askOf_L40 a1 K22 n) v2 v3 v4 v5 v6 v8 v9 true v7 h9)
else (
fX9_askOf_L85 a1 (fX9_askOf_L40 a1 K22 n) v2 v3 v4 v5 v6 v8 v9 false v7 h9)))
else (
fX9_askOf_L40 a1 K22 n v2 v3 v4 v5 v6 v7 v8 (v9 + (1 : Int32)) h))
set_option maxRecDepth 100000 in
set_option maxHeartbeats 4000000 in
theorem sX9_askOf_L40 {g : fd_G} {hm : fd_H} {a1 : Int32} {r : Int32 × fd_H} {K22 : Int32 → Int32 → Int32 → Int32 → Int32 → fd_H → Option (Int32 × fd_H)} (hK22 : ∀ (v2 : Int32) (v3 : Int32) (v4 : Int32) (v5 : Int32) (v6 : Int32) (h : fd_H), K22 v2 v3 v4 v5 v6 h = some r → fd_A g mX9_askOf fd_E (fd_rm 8 0 0) (fd_Q g (some (.int r.1)) fd_X0 (fd_mx hm r.2) 0 0) 22 [(0, .ref (g.2.2.2 + 73)), (1, .int a1), (2, .int v2), (3, .int v3), (4, .int v4), (5, .int v5), (6, .int v6)] [] fd_X0 (fd_mx hm h) 0 0) : ∀ (n : Nat) (v2 : Int32) (v3 : Int32) (v4 : Int32) (v5 : Int32) (v6 : Int32) (v7 : Int32) (v8 : Int32) (v9 : Int32) (h : fd_H), fX9_askOf_L40 a1 K22 n v2 v3 v4 v5 v6 v7 v8 v9 h = some r → fd_A g mX9_askOf fd_E (fd_rm 8 0 0) (fd_Q g (some (.int r.1)) fd_X0 (fd_mx hm r.2) 0 0) 40 [(0, .ref (g.2.2.2 + 73)), (1, .int a1), (2, .int v2), (3, .int v3), (4, .int v4), (5, .int v5), (6, .int v6), (7, .int v7), (8, .int v8), (9, .int v9)] [] fd_X0 (fd_mx hm h) 0 0 := by
  intro n
  induction n with
  | zero =>
    intro _ _ _ _ _ _ _ _ _ hf
    cases hf
  | succ n ih =>
    intro v2 v3 v4 v5 v6 v7 v8 v9 h hf
    rw [fX9_askOf_L40] at hf
    refine fr_iload (pc := 40) dX9_askOf_40 9 rfl ?_
    refine fr_bipush (pc := 42) (v := (26 : Int32)) dX9_askOf_42 (by decide) ?_
    refine fr_icmp_ge (pc := 44) 114 dX9_askOf_44 (by decide) (fun c1 => ?_) (fun c1 => ?_)
    · have hf := fd_t c1 hf
      refine fr_iload (pc := 114) dX9_askOf_114 7 rfl ?_
      refine fr_iload (pc := 116) dX9_askOf_116 8 rfl ?_
      refine fr_icmp_le (pc := 118) 126 dX9_askOf_118 (by decide) (fun c2 => ?_) (fun c2 => ?_)
      · have hf := fd_t c2 hf
        refine fr_iload (pc := 126) dX9_askOf_126 8 rfl ?_
        refine fr_loc (lv' := [(0, .ref (g.2.2.2 + 73)), (1, .int a1), (2, .int v2), (3, .int v3), (4, .int v4), (5, .int v5), (6, .int v6)]) [0, 1, 2, 3, 4, 5, 6] rfl ?_
        exact sX9_askOf_L128 hK22  _ _ _ _ _ _ _ hf
      · have hf := fd_f c2 hf
        refine fr_iload (pc := 121) dX9_askOf_121 7 rfl ?_
        refine fr_goto (pc := 123) 128 dX9_askOf_123 (by decide) ?_
        refine fr_loc (lv' := [(0, .ref (g.2.2.2 + 73)), (1, .int a1), (2, .int v2), (3, .int v3), (4, .int v4), (5, .int v5), (6, .int v6)]) [0, 1, 2, 3, 4, 5, 6] rfl ?_
        exact sX9_askOf_L128 hK22  _ _ _ _ _ _ _ hf
    · have hf := fd_f c1 hf
      refine fr_iload_n (pc := 47) dX9_askOf_47 2 rfl rfl ?_
      refine fr_iload (pc := 48) dX9_askOf_48 9 rfl ?_
      obtain ⟨r4, hc3, hf⟩ := fd_bi hf
      refine fr_callSz (pc := 50) (av := [.int v2, .int v9]) dX9_askOf_50 yy_X9_isIn kw_615 rfl rfl (Nat.le_of_ble_eq_true rfl) ⟨Nat.le_of_ble_eq_true rfl, Nat.le_of_ble_eq_true rfl, Nat.zero_le _, Nat.zero_le _⟩ (sX9_isIn hc3) ?_
      refine fr_bz (pc := 53) 108 dX9_askOf_53 (by decide) (fun c5 => ?_) (fun c5 => ?_)
      · have hf := fd_f c5 hf
        refine fr_iinc (pc := 108) (v := (v9 + (1 : Int32))) (lv' := [(9, .int (v9 + (1 : Int32))), (0, .ref (g.2.2.2 + 73)), (1, .int a1), (2, .int v2), (3, .int v3), (4, .int v4), (5, .int v5), (6, .int v6), (7, .int v7), (8, .int v8)]) dX9_askOf_108 9 rfl rfl (by decide) rfl ?_
        refine fr_goto (pc := 111) 40 dX9_askOf_111 (by decide) ?_
        refine fr_loc (lv' := [(0, .ref (g.2.2.2 + 73)), (1, .int a1), (2, .int v2), (3, .int v3), (4, .int v4), (5, .int v5), (6, .int v6), (7, .int v7), (8, .int v8), (9, .int (v9 + (1 : Int32)))]) [1, 2, 3, 4, 5, 6, 7, 8, 9, 0] rfl ?_
        exact ih _ _ _ _ _ _ _ _ _ hf
      · have hf := fd_t c5 hf
        refine fr_aload_n (pc := 56) dX9_askOf_56 0 rfl rfl ?_
        refine fr_getR (pc := 57) dX9_askOf_57 fl_X9_22 (by decide) rfl rfl ?_
        refine fr_iload_n (pc := 60) dX9_askOf_60 1 rfl rfl ?_
        refine fr_iload (pc := 61) dX9_askOf_61 9 rfl ?_
        obtain ⟨g6, hf⟩ := fd_g_e hf
        obtain ⟨h7, eh7, hf⟩ := fd_lt_e hf
        refine vm_iast (pc := 63) dX9_askOf_63 (by decide) (by decide) rfl g6 eh7 ?_
        refine fr_aload_n (pc := 64) dX9_askOf_64 0 rfl rfl ?_
        obtain ⟨h9, hc8, hf⟩ := fd_bi hf
        refine fr_callVv (pc := 65) (av := []) dX9_askOf_65 yy_X9_lays kw_356 (by decide) rfl rfl rfl rfl (Nat.le_of_ble_eq_true rfl) ⟨Nat.le_of_ble_eq_true rfl, Nat.le_of_ble_eq_true rfl, Nat.zero_le _, Nat.zero_le _⟩ (sX9_lays hc8) ?_
        refine fr_iload (pc := 68) dX9_askOf_68 7 rfl ?_
        refine fr_aload_n (pc := 70) dX9_askOf_70 0 rfl rfl ?_
        refine fr_iload (pc := 71) dX9_askOf_71 6 rfl ?_
        refine fr_iload_n (pc := 73) dX9_askOf_73 1 rfl rfl ?_
        obtain ⟨r11, hc10, hf⟩ := fd_bi hf
        refine fr_callVz (pc := 74) (av := [.int v6, .int a1]) dX9_askOf_74 yy_X9_hasHad kw_166 (by decide) rfl rfl rfl rfl (Nat.le_of_ble_eq_true rfl) ⟨Nat.le_of_ble_eq_true rfl, Nat.le_of_ble_eq_true rfl, Nat.zero_le _, Nat.zero_le _⟩ (sX9_hasHad hc10) ?_
        refine fr_bz (pc := 77) 84 dX9_askOf_77 (by decide) (fun c12 => ?_) (fun c12 => ?_)
        · have hf := fd_f c12 hf
          refine fr_iconst (pc := 84) (v := (0 : Int32)) dX9_askOf_84 (by decide) ?_
          refine fr_loc (lv' := [(0, .ref (g.2.2.2 + 73)), (1, .int a1), (2, .int v2), (3, .int v3), (4, .int v4), (5, .int v5), (6, .int v6), (8, .int v8), (9, .int v9)]) [0, 1, 2, 3, 4, 5, 6, 8, 9] rfl ?_
          exact sX9_askOf_L85 ih  _ _ _ _ _ _ _ _ _ _ hf
        · have hf := fd_t c12 hf
          refine fr_iconst (pc := 80) (v := (1 : Int32)) dX9_askOf_80 (by decide) ?_
          refine fr_goto (pc := 81) 85 dX9_askOf_81 (by decide) ?_
          refine fr_loc (lv' := [(0, .ref (g.2.2.2 + 73)), (1, .int a1), (2, .int v2), (3, .int v3), (4, .int v4), (5, .int v5), (6, .int v6), (8, .int v8), (9, .int v9)]) [0, 1, 2, 3, 4, 5, 6, 8, 9] rfl ?_
          exact sX9_askOf_L85 ih  _ _ _ _ _ _ _ _ _ _ hf
def fX9_askOf_L22 (a1 : Int32) : Nat → Int32 → Int32 → Int32 → Int32 → Int32 → fd_H → Option (Int32 × fd_H)
  | 0 => fun _ _ _ _ _ _ => none
  | n + 1 => fun v2 v3 v4 v5 v6 h =>
if (h.1 73 2) ≤ v6 then (
fd_g (fd_in a1 41) (
fd_lt (fd_ui h 78 a1.toNatClampNeg v3) fun h3 =>
some (v4, h3)))
else (
fX9_askOf_L40 a1 (fX9_askOf_L22 a1 n) fd_fu v2 v3 v4 v5 v6 (0 : Int32) (0 : Int32) (0 : Int32) h)
set_option maxRecDepth 100000 in
set_option maxHeartbeats 4000000 in
theorem sX9_askOf_L22 {g : fd_G} {hm : fd_H} {a1 : Int32} {r : Int32 × fd_H} : ∀ (n : Nat) (v2 : Int32) (v3 : Int32) (v4 : Int32) (v5 : Int32) (v6 : Int32) (h : fd_H), fX9_askOf_L22 a1 n v2 v3 v4 v5 v6 h = some r → fd_A g mX9_askOf fd_E (fd_rm 8 0 0) (fd_Q g (some (.int r.1)) fd_X0 (fd_mx hm r.2) 0 0) 22 [(0, .ref (g.2.2.2 + 73)), (1, .int a1), (2, .int v2), (3, .int v3), (4, .int v4), (5, .int v5), (6, .int v6)] [] fd_X0 (fd_mx hm h) 0 0 := by
  intro n
  induction n with
  | zero =>
    intro _ _ _ _ _ _ hf
    cases hf
  | succ n ih =>
    intro v2 v3 v4 v5 v6 h hf
    rw [fX9_askOf_L22] at hf
    refine fr_iload (pc := 22) dX9_askOf_22 6 rfl ?_
    refine fr_aload_n (pc := 24) dX9_askOf_24 0 rfl rfl ?_
    refine vm_getI (pc := 25) dX9_askOf_25 fl_X9_105 (by decide) (by decide) rfl rfl ?_
    refine fr_icmp_ge (pc := 28) 184 dX9_askOf_28 (by decide) (fun c1 => ?_) (fun c1 => ?_)
    · have hf := fd_t c1 hf
      refine fr_aload_n (pc := 184) dX9_askOf_184 0 rfl rfl ?_
      refine fr_getR (pc := 185) dX9_askOf_185 fl_X9_22 (by decide) rfl rfl ?_
      refine fr_iload_n (pc := 188) dX9_askOf_188 1 rfl rfl ?_
      refine fr_iload_n (pc := 189) dX9_askOf_189 3 rfl rfl ?_
      obtain ⟨g2, hf⟩ := fd_g_e hf
      obtain ⟨h3, eh3, hf⟩ := fd_lt_e hf
      refine vm_iast (pc := 190) dX9_askOf_190 (by decide) (by decide) rfl g2 eh3 ?_
      refine fr_iload (pc := 191) dX9_askOf_191 4 rfl ?_
      exact vm_iretW (x := v4) (pc := 193) dX9_askOf_193 rfl hf
    · have hf := fd_f c1 hf
      refine fr_iconst (pc := 31) (v := (0 : Int32)) dX9_askOf_31 (by decide) ?_
      refine fr_istore (pc := 32) (lv' := [(7, .int (0 : Int32)), (0, .ref (g.2.2.2 + 73)), (1, .int a1), (2, .int v2), (3, .int v3), (4, .int v4), (5, .int v5), (6, .int v6)]) dX9_askOf_32 (by decide) rfl ?_
      refine fr_iconst (pc := 34) (v := (0 : Int32)) dX9_askOf_34 (by decide) ?_
      refine fr_istore (pc := 35) (lv' := [(8, .int (0 : Int32)), (7, .int (0 : Int32)), (0, .ref (g.2.2.2 + 73)), (1, .int a1), (2, .int v2), (3, .int v3), (4, .int v4), (5, .int v5), (6, .int v6)]) dX9_askOf_35 (by decide) rfl ?_
      refine fr_iconst (pc := 37) (v := (0 : Int32)) dX9_askOf_37 (by decide) ?_
      refine fr_istore (pc := 38) (lv' := [(9, .int (0 : Int32)), (8, .int (0 : Int32)), (7, .int (0 : Int32)), (0, .ref (g.2.2.2 + 73)), (1, .int a1), (2, .int v2), (3, .int v3), (4, .int v4), (5, .int v5), (6, .int v6)]) dX9_askOf_38 (by decide) rfl ?_
      refine fr_loc (lv' := [(0, .ref (g.2.2.2 + 73)), (1, .int a1), (2, .int v2), (3, .int v3), (4, .int v4), (5, .int v5), (6, .int v6), (7, .int (0 : Int32)), (8, .int (0 : Int32)), (9, .int (0 : Int32))]) [3, 4, 5, 6, 7, 8, 9, 2, 1, 0] rfl ?_
      exact sX9_askOf_L40 ih _  _ _ _ _ _ _ _ _ _ hf
def fX9_askOf (a1 : Int32) (h : fd_H) : Option (Int32 × fd_H) :=
(fX9_wasOf a1 h).bind fun q2 =>
fd_g (fd_in a1 41) (
fd_lt ((q2.2.1 78 a1.toNatClampNeg)) fun x4 =>
fX9_askOf_L22 a1 fd_fu q2.1 x4 (-1 : Int32) (0 : Int32) (0 : Int32) q2.2)
set_option maxRecDepth 100000 in
set_option maxHeartbeats 4000000 in
theorem sX9_askOf {g : fd_G} {hm : fd_H} {a1 : Int32} {r : Int32 × fd_H} {h : fd_H} (hf : fX9_askOf a1 h = some r) : fd_S g mX9_askOf 8 [.ref (g.2.2.2 + 73), .int a1] fd_X0 (fd_mx hm h) (some (.int r.1)) fd_X0 (fd_mx hm r.2) 0 0 := by
  refine fd_S.of (by decide +kernel) (Nat.le_of_ble_eq_true rfl) ?_
  unfold fX9_askOf at hf
  refine fr_loc (lv' := [(0, .ref (g.2.2.2 + 73)), (1, .int a1)]) [0, 1] rfl ?_
  refine fr_aload_n (pc := 0) dX9_askOf_0 0 rfl rfl ?_
  refine fr_iload_n (pc := 1) dX9_askOf_1 1 rfl rfl ?_
  obtain ⟨q2, hc1, hf⟩ := fd_bi hf
  refine fr_callVi (pc := 2) (av := [.int a1]) dX9_askOf_2 yy_X9_wasOf kw_608 (by decide) rfl rfl rfl rfl (Nat.le_of_ble_eq_true rfl) ⟨Nat.le_of_ble_eq_true rfl, Nat.le_of_ble_eq_true rfl, Nat.zero_le _, Nat.zero_le _⟩ (sX9_wasOf hc1) ?_
  refine fr_istore_n (pc := 5) (lv' := [(2, .int q2.1), (0, .ref (g.2.2.2 + 73)), (1, .int a1)]) dX9_askOf_5 rfl (by decide) rfl ?_
  refine fr_aload_n (pc := 6) dX9_askOf_6 1 rfl rfl ?_
  refine fr_getR (pc := 7) dX9_askOf_7 fl_X9_22 (by decide) rfl rfl ?_
  refine fr_iload_n (pc := 10) dX9_askOf_10 2 rfl rfl ?_
  obtain ⟨g3, hf⟩ := fd_g_e hf
  refine vm_iald (pc := 11) dX9_askOf_11 (by decide) (by decide) rfl g3 ?_
  obtain ⟨x4, ex4, hf⟩ := fd_lt_e hf
  refine fr_nmi ex4 ?_
  refine fr_istore_n (pc := 12) (lv' := [(3, .int x4), (2, .int q2.1), (0, .ref (g.2.2.2 + 73)), (1, .int a1)]) dX9_askOf_12 rfl (by decide) rfl ?_
  refine fr_iconst (pc := 13) (v := (-1 : Int32)) dX9_askOf_13 (by decide) ?_
  refine fr_istore (pc := 14) (lv' := [(4, .int (-1 : Int32)), (3, .int x4), (2, .int q2.1), (0, .ref (g.2.2.2 + 73)), (1, .int a1)]) dX9_askOf_14 (by decide) rfl ?_
  refine fr_iconst (pc := 16) (v := (0 : Int32)) dX9_askOf_16 (by decide) ?_
  refine fr_istore (pc := 17) (lv' := [(5, .int (0 : Int32)), (4, .int (-1 : Int32)), (3, .int x4), (2, .int q2.1), (0, .ref (g.2.2.2 + 73)), (1, .int a1)]) dX9_askOf_17 (by decide) rfl ?_
  refine fr_iconst (pc := 19) (v := (0 : Int32)) dX9_askOf_19 (by decide) ?_
  refine fr_istore (pc := 20) (lv' := [(6, .int (0 : Int32)), (5, .int (0 : Int32)), (4, .int (-1 : Int32)), (3, .int x4), (2, .int q2.1), (0, .ref (g.2.2.2 + 73)), (1, .int a1)]) dX9_askOf_20 (by decide) rfl ?_
  refine fr_loc (lv' := [(0, .ref (g.2.2.2 + 73)), (1, .int a1), (2, .int q2.1), (3, .int x4), (4, .int (-1 : Int32)), (5, .int (0 : Int32)), (6, .int (0 : Int32))]) [5, 6, 4, 3, 2, 1, 0] rfl ?_
  exact sX9_askOf_L22 _  _ _ _ _ _ _ hf
theorem dX9_chance_0 : decode cX9_chance 0 = .ok (.iload_n 1, 1) := by decide +kernel
theorem dX9_chance_1 : decode cX9_chance 1 = .ok (.iconst 0, 1) := by decide +kernel
theorem dX9_chance_2 : decode cX9_chance 2 = .ok (.bipush 16, 2) := by decide +kernel
theorem dX9_chance_4 : decode cX9_chance 4 = .ok (.invokestatic 89, 3) := by decide +kernel
theorem dX9_chance_7 : decode cX9_chance 7 = .ok (.ifCond .eq 43, 3) := by decide +kernel
theorem dX9_chance_10 : decode cX9_chance 10 = .ok (.aload_n 0, 1) := by decide +kernel
theorem dX9_chance_11 : decode cX9_chance 11 = .ok (.iload_n 2, 1) := by decide +kernel
theorem dX9_chance_12 : decode cX9_chance 12 = .ok (.invokevirtual 134, 3) := by decide +kernel
theorem dX9_chance_15 : decode cX9_chance 15 = .ok (.ifCond .eq 35, 3) := by decide +kernel
theorem dX9_chance_18 : decode cX9_chance 18 = .ok (.iload_n 3, 1) := by decide +kernel
theorem dX9_chance_19 : decode cX9_chance 19 = .ok (.iconst 0, 1) := by decide +kernel
theorem dX9_chance_20 : decode cX9_chance 20 = .ok (.bipush 11, 2) := by decide +kernel
theorem dX9_chance_22 : decode cX9_chance 22 = .ok (.invokestatic 89, 3) := by decide +kernel
theorem dX9_chance_25 : decode cX9_chance 25 = .ok (.ifCond .eq 25, 3) := by decide +kernel
theorem dX9_chance_28 : decode cX9_chance 28 = .ok (.iload 4, 2) := by decide +kernel
theorem dX9_chance_30 : decode cX9_chance 30 = .ok (.iconst 0, 1) := by decide +kernel
theorem dX9_chance_31 : decode cX9_chance 31 = .ok (.iconst 1, 1) := by decide +kernel
theorem dX9_chance_32 : decode cX9_chance 32 = .ok (.invokestatic 89, 3) := by decide +kernel
theorem dX9_chance_35 : decode cX9_chance 35 = .ok (.ifCond .eq 15, 3) := by decide +kernel
theorem dX9_chance_38 : decode cX9_chance 38 = .ok (.aload_n 0, 1) := by decide +kernel
theorem dX9_chance_39 : decode cX9_chance 39 = .ok (.iload_n 1, 1) := by decide +kernel
theorem dX9_chance_40 : decode cX9_chance 40 = .ok (.iload_n 2, 1) := by decide +kernel
theorem dX9_chance_41 : decode cX9_chance 41 = .ok (.iload_n 3, 1) := by decide +kernel
theorem dX9_chance_42 : decode cX9_chance 42 = .ok (.iload 4, 2) := by decide +kernel
theorem dX9_chance_44 : decode cX9_chance 44 = .ok (.invokevirtual 269, 3) := by decide +kernel
theorem dX9_chance_47 : decode cX9_chance 47 = .ok (.goto 8, 3) := by decide +kernel
theorem dX9_chance_50 : decode cX9_chance 50 = .ok (.bipush (-2), 2) := by decide +kernel
theorem dX9_chance_52 : decode cX9_chance 52 = .ok (.invokestatic 273, 3) := by decide +kernel
theorem dX9_chance_55 : decode cX9_chance 55 = .ok (.lreturn, 1) := by decide +kernel
def fX9_chance_L50 (a1 : Int32) (a2 : Int32) (a3 : Int32) (a4 : Int32) (h : fd_H) : Option (Int64 × fd_H) :=
(fX9_no (-2 : Int32)).bind fun r2 =>
some (r2, h)
set_option maxRecDepth 100000 in
set_option maxHeartbeats 4000000 in
theorem sX9_chance_L50 {g : fd_G} {hm : fd_H} {a1 : Int32} {a2 : Int32} {a3 : Int32} {a4 : Int32} {r : Int64 × fd_H} : ∀ (h : fd_H), fX9_chance_L50 a1 a2 a3 a4 h = some r → fd_A g mX9_chance fd_E (fd_rm 8 0 0) (fd_Q g (some (.long r.1)) fd_X0 (fd_mx hm r.2) 0 0) 50 [] [] fd_X0 (fd_mx hm h) 0 0 := by
  intro h hf
  unfold fX9_chance_L50 at hf
  refine fr_bipush (pc := 50) (v := (-2 : Int32)) dX9_chance_50 (by decide) ?_
  obtain ⟨r2, hc1, hf⟩ := fd_bi hf
  refine fr_callSl (pc := 52) (av := [.int (-2 : Int32)]) dX9_chance_52 yy_X9_no kw_622 rfl rfl (Nat.le_of_ble_eq_true rfl) ⟨Nat.le_of_ble_eq_true rfl, Nat.le_of_ble_eq_true rfl, Nat.zero_le _, Nat.zero_le _⟩ (sX9_no hc1) ?_
  exact vm_lretW (x := r2) (pc := 55) dX9_chance_55 rfl hf
def fX9_chance (a1 : Int32) (a2 : Int32) (a3 : Int32) (a4 : Int32) (h : fd_H) : Option (Int64 × fd_H) :=
(fX9_in a1 (0 : Int32) (16 : Int32)).bind fun r2 =>
if r2 = true then (
(fX9_isPlace a2 h).bind fun q5 =>
if q5.1 = true then (
(fX9_in a3 (0 : Int32) (11 : Int32)).bind fun r8 =>
if r8 = true then (
(fX9_in a4 (0 : Int32) (1 : Int32)).bind fun r11 =>
if r11 = true then (
(fX9_chanceOf a1 a2 a3 a4 q5.2).bind fun q14 =>
some (q14.1, q14.2))
else (
fX9_chance_L50 a1 a2 a3 a4 q5.2))
else (
fX9_chance_L50 a1 a2 a3 a4 q5.2))
else (
fX9_chance_L50 a1 a2 a3 a4 q5.2))
else (
fX9_chance_L50 a1 a2 a3 a4 h)
set_option maxRecDepth 100000 in
set_option maxHeartbeats 4000000 in
theorem sX9_chance {g : fd_G} {hm : fd_H} {a1 : Int32} {a2 : Int32} {a3 : Int32} {a4 : Int32} {r : Int64 × fd_H} {h : fd_H} (hf : fX9_chance a1 a2 a3 a4 h = some r) : fd_S g mX9_chance 8 [.ref (g.2.2.2 + 73), .int a1, .int a2, .int a3, .int a4] fd_X0 (fd_mx hm h) (some (.long r.1)) fd_X0 (fd_mx hm r.2) 0 0 := by
  refine fd_S.of (by decide +kernel) (Nat.le_of_ble_eq_true rfl) ?_
  unfold fX9_chance at hf
  refine fr_loc (lv' := [(0, .ref (g.2.2.2 + 73)), (1, .int a1), (2, .int a2), (3, .int a3), (4, .int a4)]) [0, 1, 2, 3, 4] rfl ?_
  refine fr_iload_n (pc := 0) dX9_chance_0 1 rfl rfl ?_
  refine fr_iconst (pc := 1) (v := (0 : Int32)) dX9_chance_1 (by decide) ?_
  refine fr_bipush (pc := 2) (v := (16 : Int32)) dX9_chance_2 (by decide) ?_
  obtain ⟨r2, hc1, hf⟩ := fd_bi hf
  refine fr_callSz (pc := 4) (av := [.int a1, .int (0 : Int32), .int (16 : Int32)]) dX9_chance_4 yy_X9_in kw_148 rfl rfl (Nat.le_of_ble_eq_true rfl) ⟨Nat.le_of_ble_eq_true rfl, Nat.le_of_ble_eq_true rfl, Nat.zero_le _, Nat.zero_le _⟩ (sX9_in hc1) ?_
  refine fr_bz (pc := 7) 50 dX9_chance_7 (by decide) (fun c3 => ?_) (fun c3 => ?_)
  · have hf := fd_f c3 hf
    refine fr_loc (lv' := []) [] rfl ?_
    exact sX9_chance_L50  _ hf
  · have hf := fd_t c3 hf
    refine fr_aload_n (pc := 10) dX9_chance_10 0 rfl rfl ?_
    refine fr_iload_n (pc := 11) dX9_chance_11 2 rfl rfl ?_
    obtain ⟨q5, hc4, hf⟩ := fd_bi hf
    refine fr_callVz (pc := 12) (av := [.int a2]) dX9_chance_12 yy_X9_isPlace kw_547 (by decide) rfl rfl rfl rfl (Nat.le_of_ble_eq_true rfl) ⟨Nat.le_of_ble_eq_true rfl, Nat.le_of_ble_eq_true rfl, Nat.zero_le _, Nat.zero_le _⟩ (sX9_isPlace hc4) ?_
    refine fr_bz (pc := 15) 50 dX9_chance_15 (by decide) (fun c6 => ?_) (fun c6 => ?_)
    · have hf := fd_f c6 hf
      refine fr_loc (lv' := []) [] rfl ?_
      exact sX9_chance_L50  _ hf
    · have hf := fd_t c6 hf
      refine fr_iload_n (pc := 18) dX9_chance_18 3 rfl rfl ?_
      refine fr_iconst (pc := 19) (v := (0 : Int32)) dX9_chance_19 (by decide) ?_
      refine fr_bipush (pc := 20) (v := (11 : Int32)) dX9_chance_20 (by decide) ?_
      obtain ⟨r8, hc7, hf⟩ := fd_bi hf
      refine fr_callSz (pc := 22) (av := [.int a3, .int (0 : Int32), .int (11 : Int32)]) dX9_chance_22 yy_X9_in kw_148 rfl rfl (Nat.le_of_ble_eq_true rfl) ⟨Nat.le_of_ble_eq_true rfl, Nat.le_of_ble_eq_true rfl, Nat.zero_le _, Nat.zero_le _⟩ (sX9_in hc7) ?_
      refine fr_bz (pc := 25) 50 dX9_chance_25 (by decide) (fun c9 => ?_) (fun c9 => ?_)
      · have hf := fd_f c9 hf
        refine fr_loc (lv' := []) [] rfl ?_
        exact sX9_chance_L50  _ hf
      · have hf := fd_t c9 hf
        refine fr_iload (pc := 28) dX9_chance_28 4 rfl ?_
        refine fr_iconst (pc := 30) (v := (0 : Int32)) dX9_chance_30 (by decide) ?_
        refine fr_iconst (pc := 31) (v := (1 : Int32)) dX9_chance_31 (by decide) ?_
        obtain ⟨r11, hc10, hf⟩ := fd_bi hf
        refine fr_callSz (pc := 32) (av := [.int a4, .int (0 : Int32), .int (1 : Int32)]) dX9_chance_32 yy_X9_in kw_148 rfl rfl (Nat.le_of_ble_eq_true rfl) ⟨Nat.le_of_ble_eq_true rfl, Nat.le_of_ble_eq_true rfl, Nat.zero_le _, Nat.zero_le _⟩ (sX9_in hc10) ?_
        refine fr_bz (pc := 35) 50 dX9_chance_35 (by decide) (fun c12 => ?_) (fun c12 => ?_)
        · have hf := fd_f c12 hf
          refine fr_loc (lv' := []) [] rfl ?_
          exact sX9_chance_L50  _ hf
        · have hf := fd_t c12 hf
          refine fr_aload_n (pc := 38) dX9_chance_38 0 rfl rfl ?_
          refine fr_iload_n (pc := 39) dX9_chance_39 1 rfl rfl ?_
          refine fr_iload_n (pc := 40) dX9_chance_40 2 rfl rfl ?_
          refine fr_iload_n (pc := 41) dX9_chance_41 3 rfl rfl ?_
          refine fr_iload (pc := 42) dX9_chance_42 4 rfl ?_
          obtain ⟨q14, hc13, hf⟩ := fd_bi hf
          refine fr_callVl (pc := 44) (av := [.int a1, .int a2, .int a3, .int a4]) dX9_chance_44 yy_X9_chanceOf kw_619 (by decide) rfl rfl rfl rfl (Nat.le_of_ble_eq_true rfl) ⟨Nat.le_of_ble_eq_true rfl, Nat.le_of_ble_eq_true rfl, Nat.zero_le _, Nat.zero_le _⟩ (sX9_chanceOf hc13) ?_
          refine fr_goto (pc := 47) 55 dX9_chance_47 (by decide) ?_
          exact vm_lretW (x := q14.1) (pc := 55) dX9_chance_55 rfl hf
theorem dX9_year_0 : decode cX9_year 0 = .ok (.iload_n 2, 1) := by decide +kernel
theorem dX9_year_1 : decode cX9_year 1 = .ok (.iconst (-1), 1) := by decide +kernel
theorem dX9_year_2 : decode cX9_year 2 = .ok (.if_icmp .eq 11, 3) := by decide +kernel
theorem dX9_year_5 : decode cX9_year 5 = .ok (.aload_n 0, 1) := by decide +kernel
theorem dX9_year_6 : decode cX9_year 6 = .ok (.iload_n 2, 1) := by decide +kernel
theorem dX9_year_7 : decode cX9_year 7 = .ok (.invokevirtual 134, 3) := by decide +kernel
theorem dX9_year_10 : decode cX9_year 10 = .ok (.ifCond .eq 12, 3) := by decide +kernel
theorem dX9_year_13 : decode cX9_year 13 = .ok (.aload_n 0, 1) := by decide +kernel
theorem dX9_year_14 : decode cX9_year 14 = .ok (.iload_n 1, 1) := by decide +kernel
theorem dX9_year_15 : decode cX9_year 15 = .ok (.iload_n 2, 1) := by decide +kernel
theorem dX9_year_16 : decode cX9_year 16 = .ok (.invokevirtual 278, 3) := by decide +kernel
theorem dX9_year_19 : decode cX9_year 19 = .ok (.goto 5, 3) := by decide +kernel
theorem dX9_year_22 : decode cX9_year 22 = .ok (.bipush (-2), 2) := by decide +kernel
theorem dX9_year_24 : decode cX9_year 24 = .ok (.ireturn, 1) := by decide +kernel
def fX9_year_L13 (a1 : Int32) (a2 : Int32) (h : fd_H) : Option (Int32 × fd_H) :=
(fX9_yearOf a1 a2 h).bind fun q2 =>
some (q2.1, q2.2)
set_option maxRecDepth 100000 in
set_option maxHeartbeats 4000000 in
theorem sX9_year_L13 {g : fd_G} {hm : fd_H} {a1 : Int32} {a2 : Int32} {r : Int32 × fd_H} : ∀ (h : fd_H), fX9_year_L13 a1 a2 h = some r → fd_A g mX9_year fd_E (fd_rm 8 0 0) (fd_Q g (some (.int r.1)) fd_X0 (fd_mx hm r.2) 0 0) 13 [(0, .ref (g.2.2.2 + 73)), (1, .int a1), (2, .int a2)] [] fd_X0 (fd_mx hm h) 0 0 := by
  intro h hf
  unfold fX9_year_L13 at hf
  refine fr_aload_n (pc := 13) dX9_year_13 0 rfl rfl ?_
  refine fr_iload_n (pc := 14) dX9_year_14 1 rfl rfl ?_
  refine fr_iload_n (pc := 15) dX9_year_15 2 rfl rfl ?_
  obtain ⟨q2, hc1, hf⟩ := fd_bi hf
  refine fr_callVi (pc := 16) (av := [.int a1, .int a2]) dX9_year_16 yy_X9_yearOf kw_626 (by decide) rfl rfl rfl rfl (Nat.le_of_ble_eq_true rfl) ⟨Nat.le_of_ble_eq_true rfl, Nat.le_of_ble_eq_true rfl, Nat.zero_le _, Nat.zero_le _⟩ (sX9_yearOf hc1) ?_
  refine fr_goto (pc := 19) 24 dX9_year_19 (by decide) ?_
  exact vm_iretW (x := q2.1) (pc := 24) dX9_year_24 rfl hf
def fX9_year (a1 : Int32) (a2 : Int32) (h : fd_H) : Option (Int32 × fd_H) :=
if a2 = (-1 : Int32) then (
fX9_year_L13 a1 a2 h)
else (
(fX9_isPlace a2 h).bind fun q3 =>
if q3.1 = true then (
fX9_year_L13 a1 a2 q3.2)
else (
some ((-2 : Int32), q3.2)))
set_option maxRecDepth 100000 in
set_option maxHeartbeats 4000000 in
theorem sX9_year {g : fd_G} {hm : fd_H} {a1 : Int32} {a2 : Int32} {r : Int32 × fd_H} {h : fd_H} (hf : fX9_year a1 a2 h = some r) : fd_S g mX9_year 8 [.ref (g.2.2.2 + 73), .int a1, .int a2] fd_X0 (fd_mx hm h) (some (.int r.1)) fd_X0 (fd_mx hm r.2) 0 0 := by
  refine fd_S.of (by decide +kernel) (Nat.le_of_ble_eq_true rfl) ?_
  unfold fX9_year at hf
  refine fr_loc (lv' := [(0, .ref (g.2.2.2 + 73)), (1, .int a1), (2, .int a2)]) [0, 1, 2] rfl ?_
  refine fr_iload_n (pc := 0) dX9_year_0 2 rfl rfl ?_
  refine fr_iconst (pc := 1) (v := (-1 : Int32)) dX9_year_1 (by decide) ?_
  refine fr_icmp_eq (pc := 2) 13 dX9_year_2 (by decide) (fun c1 => ?_) (fun c1 => ?_)
  · have hf := fd_t c1 hf
    refine fr_loc (lv' := [(0, .ref (g.2.2.2 + 73)), (1, .int a1), (2, .int a2)]) [0, 1, 2] rfl ?_
    exact sX9_year_L13  _ hf
  · have hf := fd_f c1 hf
    refine fr_aload_n (pc := 5) dX9_year_5 0 rfl rfl ?_
    refine fr_iload_n (pc := 6) dX9_year_6 2 rfl rfl ?_
    obtain ⟨q3, hc2, hf⟩ := fd_bi hf
    refine fr_callVz (pc := 7) (av := [.int a2]) dX9_year_7 yy_X9_isPlace kw_547 (by decide) rfl rfl rfl rfl (Nat.le_of_ble_eq_true rfl) ⟨Nat.le_of_ble_eq_true rfl, Nat.le_of_ble_eq_true rfl, Nat.zero_le _, Nat.zero_le _⟩ (sX9_isPlace hc2) ?_
    refine fr_bz (pc := 10) 22 dX9_year_10 (by decide) (fun c4 => ?_) (fun c4 => ?_)
    · have hf := fd_f c4 hf
      refine fr_bipush (pc := 22) (v := (-2 : Int32)) dX9_year_22 (by decide) ?_
      exact vm_iretW (x := (-2 : Int32)) (pc := 24) dX9_year_24 rfl hf
    · have hf := fd_t c4 hf
      refine fr_loc (lv' := [(0, .ref (g.2.2.2 + 73)), (1, .int a1), (2, .int a2)]) [0, 1, 2] rfl ?_
      exact sX9_year_L13  _ hf
theorem dX9_owedBy_0 : decode cX9_owedBy 0 = .ok (.aload_n 0, 1) := by decide +kernel
theorem dX9_owedBy_1 : decode cX9_owedBy 1 = .ok (.invokevirtual 180, 3) := by decide +kernel
theorem dX9_owedBy_4 : decode cX9_owedBy 4 = .ok (.iconst 0, 1) := by decide +kernel
theorem dX9_owedBy_5 : decode cX9_owedBy 5 = .ok (.istore_n 2, 1) := by decide +kernel
theorem dX9_owedBy_6 : decode cX9_owedBy 6 = .ok (.iconst 0, 1) := by decide +kernel
theorem dX9_owedBy_7 : decode cX9_owedBy 7 = .ok (.istore_n 3, 1) := by decide +kernel
theorem dX9_owedBy_8 : decode cX9_owedBy 8 = .ok (.iload_n 3, 1) := by decide +kernel
theorem dX9_owedBy_9 : decode cX9_owedBy 9 = .ok (.bipush 6, 2) := by decide +kernel
theorem dX9_owedBy_11 : decode cX9_owedBy 11 = .ok (.if_icmp .ge 19, 3) := by decide +kernel
theorem dX9_owedBy_14 : decode cX9_owedBy 14 = .ok (.iload_n 2, 1) := by decide +kernel
theorem dX9_owedBy_15 : decode cX9_owedBy 15 = .ok (.aload_n 0, 1) := by decide +kernel
theorem dX9_owedBy_16 : decode cX9_owedBy 16 = .ok (.iload_n 3, 1) := by decide +kernel
theorem dX9_owedBy_17 : decode cX9_owedBy 17 = .ok (.iload_n 1, 1) := by decide +kernel
theorem dX9_owedBy_18 : decode cX9_owedBy 18 = .ok (.iconst 0, 1) := by decide +kernel
theorem dX9_owedBy_19 : decode cX9_owedBy 19 = .ok (.invokevirtual 207, 3) := by decide +kernel
theorem dX9_owedBy_22 : decode cX9_owedBy 22 = .ok (.iadd, 1) := by decide +kernel
theorem dX9_owedBy_23 : decode cX9_owedBy 23 = .ok (.istore_n 2, 1) := by decide +kernel
theorem dX9_owedBy_24 : decode cX9_owedBy 24 = .ok (.iinc 3 1, 3) := by decide +kernel
theorem dX9_owedBy_27 : decode cX9_owedBy 27 = .ok (.goto (-19), 3) := by decide +kernel
theorem dX9_owedBy_30 : decode cX9_owedBy 30 = .ok (.iload_n 2, 1) := by decide +kernel
theorem dX9_owedBy_31 : decode cX9_owedBy 31 = .ok (.ireturn, 1) := by decide +kernel
def fX9_owedBy_L8 (a1 : Int32) : Nat → Int32 → Int32 → fd_H → Option (Int32 × fd_H)
  | 0 => fun _ _ _ => none
  | n + 1 => fun v2 v3 h =>
if (6 : Int32) ≤ v3 then (
some (v2, h))
else (
(fX9_owesNow v3 a1 (0 : Int32) h).bind fun r3 =>
fd_lt ((v2 + r3)) fun x4 =>
fX9_owedBy_L8 a1 n x4 (v3 + (1 : Int32)) h)
set_option maxRecDepth 100000 in
set_option maxHeartbeats 4000000 in
theorem sX9_owedBy_L8 {g : fd_G} {hm : fd_H} {a1 : Int32} {r : Int32 × fd_H} : ∀ (n : Nat) (v2 : Int32) (v3 : Int32) (h : fd_H), fX9_owedBy_L8 a1 n v2 v3 h = some r → fd_A g mX9_owedBy fd_E (fd_rm 8 0 0) (fd_Q g (some (.int r.1)) fd_X0 (fd_mx hm r.2) 0 0) 8 [(0, .ref (g.2.2.2 + 73)), (1, .int a1), (2, .int v2), (3, .int v3)] [] fd_X0 (fd_mx hm h) 0 0 := by
  intro n
  induction n with
  | zero =>
    intro _ _ _ hf
    cases hf
  | succ n ih =>
    intro v2 v3 h hf
    rw [fX9_owedBy_L8] at hf
    refine fr_iload_n (pc := 8) dX9_owedBy_8 3 rfl rfl ?_
    refine fr_bipush (pc := 9) (v := (6 : Int32)) dX9_owedBy_9 (by decide) ?_
    refine fr_icmp_ge (pc := 11) 30 dX9_owedBy_11 (by decide) (fun c1 => ?_) (fun c1 => ?_)
    · have hf := fd_t c1 hf
      refine fr_iload_n (pc := 30) dX9_owedBy_30 2 rfl rfl ?_
      exact vm_iretW (x := v2) (pc := 31) dX9_owedBy_31 rfl hf
    · have hf := fd_f c1 hf
      refine fr_iload_n (pc := 14) dX9_owedBy_14 2 rfl rfl ?_
      refine fr_aload_n (pc := 15) dX9_owedBy_15 0 rfl rfl ?_
      refine fr_iload_n (pc := 16) dX9_owedBy_16 3 rfl rfl ?_
      refine fr_iload_n (pc := 17) dX9_owedBy_17 1 rfl rfl ?_
      refine fr_iconst (pc := 18) (v := (0 : Int32)) dX9_owedBy_18 (by decide) ?_
      obtain ⟨r3, hc2, hf⟩ := fd_bi hf
      refine fr_callVi (pc := 19) (av := [.int v3, .int a1, .int (0 : Int32)]) dX9_owedBy_19 yy_X9_owesNow kw_361 (by decide) rfl rfl rfl rfl (Nat.le_of_ble_eq_true rfl) ⟨Nat.le_of_ble_eq_true rfl, Nat.le_of_ble_eq_true rfl, Nat.zero_le _, Nat.zero_le _⟩ (sX9_owesNow hc2) ?_
      refine fr_iadd (pc := 22) dX9_owedBy_22 ?_
      obtain ⟨x4, ex4, hf⟩ := fd_lt_e hf
      refine fr_nmi ex4 ?_
      refine fr_istore_n (pc := 23) (lv' := [(2, .int x4), (0, .ref (g.2.2.2 + 73)), (1, .int a1), (3, .int v3)]) dX9_owedBy_23 rfl (by decide) rfl ?_
      refine fr_iinc (pc := 24) (v := (v3 + (1 : Int32))) (lv' := [(3, .int (v3 + (1 : Int32))), (2, .int x4), (0, .ref (g.2.2.2 + 73)), (1, .int a1)]) dX9_owedBy_24 3 rfl rfl (by decide) rfl ?_
      refine fr_goto (pc := 27) 8 dX9_owedBy_27 (by decide) ?_
      refine fr_loc (lv' := [(0, .ref (g.2.2.2 + 73)), (1, .int a1), (2, .int x4), (3, .int (v3 + (1 : Int32)))]) [2, 3, 1, 0] rfl ?_
      exact ih _ _ _ hf
def fX9_owedBy (a1 : Int32) (h : fd_H) : Option (Int32 × fd_H) :=
(fX9_laysTold h).bind fun h2 =>
fX9_owedBy_L8 a1 fd_fu (0 : Int32) (0 : Int32) h2
set_option maxRecDepth 100000 in
set_option maxHeartbeats 4000000 in
theorem sX9_owedBy {g : fd_G} {hm : fd_H} {a1 : Int32} {r : Int32 × fd_H} {h : fd_H} (hf : fX9_owedBy a1 h = some r) : fd_S g mX9_owedBy 8 [.ref (g.2.2.2 + 73), .int a1] fd_X0 (fd_mx hm h) (some (.int r.1)) fd_X0 (fd_mx hm r.2) 0 0 := by
  refine fd_S.of (by decide +kernel) (Nat.le_of_ble_eq_true rfl) ?_
  unfold fX9_owedBy at hf
  refine fr_loc (lv' := [(0, .ref (g.2.2.2 + 73)), (1, .int a1)]) [0, 1] rfl ?_
  refine fr_aload_n (pc := 0) dX9_owedBy_0 0 rfl rfl ?_
  obtain ⟨h2, hc1, hf⟩ := fd_bi hf
  refine fr_callVv (pc := 1) (av := []) dX9_owedBy_1 yy_X9_laysTold kw_592 (by decide) rfl rfl rfl rfl (Nat.le_of_ble_eq_true rfl) ⟨Nat.le_of_ble_eq_true rfl, Nat.le_of_ble_eq_true rfl, Nat.zero_le _, Nat.zero_le _⟩ (sX9_laysTold hc1) ?_
  refine fr_iconst (pc := 4) (v := (0 : Int32)) dX9_owedBy_4 (by decide) ?_
  refine fr_istore_n (pc := 5) (lv' := [(2, .int (0 : Int32)), (0, .ref (g.2.2.2 + 73)), (1, .int a1)]) dX9_owedBy_5 rfl (by decide) rfl ?_
  refine fr_iconst (pc := 6) (v := (0 : Int32)) dX9_owedBy_6 (by decide) ?_
  refine fr_istore_n (pc := 7) (lv' := [(3, .int (0 : Int32)), (2, .int (0 : Int32)), (0, .ref (g.2.2.2 + 73)), (1, .int a1)]) dX9_owedBy_7 rfl (by decide) rfl ?_
  refine fr_loc (lv' := [(0, .ref (g.2.2.2 + 73)), (1, .int a1), (2, .int (0 : Int32)), (3, .int (0 : Int32))]) [2, 3, 1, 0] rfl ?_
  exact sX9_owedBy_L8 _  _ _ _ hf
theorem dX9_first_0 : decode cX9_first 0 = .ok (.aload_n 0, 1) := by decide +kernel
theorem dX9_first_1 : decode cX9_first 1 = .ok (.iload_n 1, 1) := by decide +kernel
theorem dX9_first_2 : decode cX9_first 2 = .ok (.invokevirtual 134, 3) := by decide +kernel
theorem dX9_first_5 : decode cX9_first 5 = .ok (.ifCond .eq 11, 3) := by decide +kernel
theorem dX9_first_8 : decode cX9_first 8 = .ok (.aload_n 0, 1) := by decide +kernel
theorem dX9_first_9 : decode cX9_first 9 = .ok (.iload_n 1, 1) := by decide +kernel
theorem dX9_first_10 : decode cX9_first 10 = .ok (.invokevirtual 183, 3) := by decide +kernel
theorem dX9_first_13 : decode cX9_first 13 = .ok (.goto 5, 3) := by decide +kernel
theorem dX9_first_16 : decode cX9_first 16 = .ok (.bipush (-2), 2) := by decide +kernel
theorem dX9_first_18 : decode cX9_first 18 = .ok (.ireturn, 1) := by decide +kernel
def fX9_first (a1 : Int32) (h : fd_H) : Option (Int32 × fd_H) :=
(fX9_isPlace a1 h).bind fun q2 =>
if q2.1 = true then (
(fX9_firstOf a1 q2.2).bind fun q5 =>
some (q5.1, q5.2))
else (
some ((-2 : Int32), q2.2))
set_option maxRecDepth 100000 in
set_option maxHeartbeats 4000000 in
theorem sX9_first {g : fd_G} {hm : fd_H} {a1 : Int32} {r : Int32 × fd_H} {h : fd_H} (hf : fX9_first a1 h = some r) : fd_S g mX9_first 9 [.ref (g.2.2.2 + 73), .int a1] fd_X0 (fd_mx hm h) (some (.int r.1)) fd_X0 (fd_mx hm r.2) 0 0 := by
  refine fd_S.of (by decide +kernel) (Nat.le_of_ble_eq_true rfl) ?_
  unfold fX9_first at hf
  refine fr_loc (lv' := [(0, .ref (g.2.2.2 + 73)), (1, .int a1)]) [0, 1] rfl ?_
  refine fr_aload_n (pc := 0) dX9_first_0 0 rfl rfl ?_
  refine fr_iload_n (pc := 1) dX9_first_1 1 rfl rfl ?_
  obtain ⟨q2, hc1, hf⟩ := fd_bi hf
  refine fr_callVz (pc := 2) (av := [.int a1]) dX9_first_2 yy_X9_isPlace kw_547 (by decide) rfl rfl rfl rfl (Nat.le_of_ble_eq_true rfl) ⟨Nat.le_of_ble_eq_true rfl, Nat.le_of_ble_eq_true rfl, Nat.zero_le _, Nat.zero_le _⟩ (sX9_isPlace hc1) ?_
  refine fr_bz (pc := 5) 16 dX9_first_5 (by decide) (fun c3 => ?_) (fun c3 => ?_)
  · have hf := fd_f c3 hf
    refine fr_bipush (pc := 16) (v := (-2 : Int32)) dX9_first_16 (by decide) ?_
    exact vm_iretW (x := (-2 : Int32)) (pc := 18) dX9_first_18 rfl hf
  · have hf := fd_t c3 hf
    refine fr_aload_n (pc := 8) dX9_first_8 0 rfl rfl ?_
    refine fr_iload_n (pc := 9) dX9_first_9 1 rfl rfl ?_
    obtain ⟨q5, hc4, hf⟩ := fd_bi hf
    refine fr_callVi (pc := 10) (av := [.int a1]) dX9_first_10 yy_X9_firstOf kw_630 (by decide) rfl rfl rfl rfl (Nat.le_of_ble_eq_true rfl) ⟨Nat.le_of_ble_eq_true rfl, Nat.le_of_ble_eq_true rfl, Nat.zero_le _, Nat.zero_le _⟩ (sX9_firstOf hc4) ?_
    refine fr_goto (pc := 13) 18 dX9_first_13 (by decide) ?_
    exact vm_iretW (x := q5.1) (pc := 18) dX9_first_18 rfl hf
theorem dX9_had_0 : decode cX9_had 0 = .ok (.iload_n 1, 1) := by decide +kernel
theorem dX9_had_1 : decode cX9_had 1 = .ok (.invokestatic 146, 3) := by decide +kernel
theorem dX9_had_4 : decode cX9_had 4 = .ok (.ifCond .eq 11, 3) := by decide +kernel
theorem dX9_had_7 : decode cX9_had 7 = .ok (.aload_n 0, 1) := by decide +kernel
theorem dX9_had_8 : decode cX9_had 8 = .ok (.iload_n 1, 1) := by decide +kernel
theorem dX9_had_9 : decode cX9_had 9 = .ok (.invokevirtual 189, 3) := by decide +kernel
theorem dX9_had_12 : decode cX9_had 12 = .ok (.goto 5, 3) := by decide +kernel
theorem dX9_had_15 : decode cX9_had 15 = .ok (.bipush (-2), 2) := by decide +kernel
theorem dX9_had_17 : decode cX9_had 17 = .ok (.ireturn, 1) := by decide +kernel
def fX9_had (a1 : Int32) (h : fd_H) : Option (Int32 × fd_H) :=
(fX9_isForty a1).bind fun r2 =>
if r2 = true then (
(fX9_hadOf a1 h).bind fun q5 =>
some (q5.1, q5.2))
else (
some ((-2 : Int32), h))
set_option maxRecDepth 100000 in
set_option maxHeartbeats 4000000 in
theorem sX9_had {g : fd_G} {hm : fd_H} {a1 : Int32} {r : Int32 × fd_H} {h : fd_H} (hf : fX9_had a1 h = some r) : fd_S g mX9_had 9 [.ref (g.2.2.2 + 73), .int a1] fd_X0 (fd_mx hm h) (some (.int r.1)) fd_X0 (fd_mx hm r.2) 0 0 := by
  refine fd_S.of (by decide +kernel) (Nat.le_of_ble_eq_true rfl) ?_
  unfold fX9_had at hf
  refine fr_loc (lv' := [(0, .ref (g.2.2.2 + 73)), (1, .int a1)]) [0, 1] rfl ?_
  refine fr_iload_n (pc := 0) dX9_had_0 1 rfl rfl ?_
  obtain ⟨r2, hc1, hf⟩ := fd_bi hf
  refine fr_callSz (pc := 1) (av := [.int a1]) dX9_had_1 yy_X9_isForty kw_246 rfl rfl (Nat.le_of_ble_eq_true rfl) ⟨Nat.le_of_ble_eq_true rfl, Nat.le_of_ble_eq_true rfl, Nat.zero_le _, Nat.zero_le _⟩ (sX9_isForty hc1) ?_
  refine fr_bz (pc := 4) 15 dX9_had_4 (by decide) (fun c3 => ?_) (fun c3 => ?_)
  · have hf := fd_f c3 hf
    refine fr_bipush (pc := 15) (v := (-2 : Int32)) dX9_had_15 (by decide) ?_
    exact vm_iretW (x := (-2 : Int32)) (pc := 17) dX9_had_17 rfl hf
  · have hf := fd_t c3 hf
    refine fr_aload_n (pc := 7) dX9_had_7 0 rfl rfl ?_
    refine fr_iload_n (pc := 8) dX9_had_8 1 rfl rfl ?_
    obtain ⟨q5, hc4, hf⟩ := fd_bi hf
    refine fr_callVi (pc := 9) (av := [.int a1]) dX9_had_9 yy_X9_hadOf kw_634 (by decide) rfl rfl rfl rfl (Nat.le_of_ble_eq_true rfl) ⟨Nat.le_of_ble_eq_true rfl, Nat.le_of_ble_eq_true rfl, Nat.zero_le _, Nat.zero_le _⟩ (sX9_hadOf hc4) ?_
    refine fr_goto (pc := 12) 17 dX9_had_12 (by decide) ?_
    exact vm_iretW (x := q5.1) (pc := 17) dX9_had_17 rfl hf
theorem dX9_stands_0 : decode cX9_stands 0 = .ok (.aload_n 0, 1) := by decide +kernel
theorem dX9_stands_1 : decode cX9_stands 1 = .ok (.iload_n 1, 1) := by decide +kernel
theorem dX9_stands_2 : decode cX9_stands 2 = .ok (.invokevirtual 140, 3) := by decide +kernel
theorem dX9_stands_5 : decode cX9_stands 5 = .ok (.ifCond .eq 19, 3) := by decide +kernel
theorem dX9_stands_8 : decode cX9_stands 8 = .ok (.iload_n 2, 1) := by decide +kernel
theorem dX9_stands_9 : decode cX9_stands 9 = .ok (.invokestatic 146, 3) := by decide +kernel
theorem dX9_stands_12 : decode cX9_stands 12 = .ok (.ifCond .eq 12, 3) := by decide +kernel
theorem dX9_stands_15 : decode cX9_stands 15 = .ok (.aload_n 0, 1) := by decide +kernel
theorem dX9_stands_16 : decode cX9_stands 16 = .ok (.iload_n 1, 1) := by decide +kernel
theorem dX9_stands_17 : decode cX9_stands 17 = .ok (.iload_n 2, 1) := by decide +kernel
theorem dX9_stands_18 : decode cX9_stands 18 = .ok (.invokevirtual 195, 3) := by decide +kernel
theorem dX9_stands_21 : decode cX9_stands 21 = .ok (.goto 5, 3) := by decide +kernel
theorem dX9_stands_24 : decode cX9_stands 24 = .ok (.bipush (-2), 2) := by decide +kernel
theorem dX9_stands_26 : decode cX9_stands 26 = .ok (.ireturn, 1) := by decide +kernel
def fX9_stands (a1 : Int32) (a2 : Int32) (h : fd_H) : Option (Int32 × fd_H) :=
(fX9_isDebt a1 h).bind fun q2 =>
if q2.1 = true then (
(fX9_isForty a2).bind fun r5 =>
if r5 = true then (
(fX9_standsOf a1 a2 q2.2).bind fun q8 =>
some (q8.1, q8.2))
else (
some ((-2 : Int32), q2.2)))
else (
some ((-2 : Int32), q2.2))
set_option maxRecDepth 100000 in
set_option maxHeartbeats 4000000 in
theorem sX9_stands {g : fd_G} {hm : fd_H} {a1 : Int32} {a2 : Int32} {r : Int32 × fd_H} {h : fd_H} (hf : fX9_stands a1 a2 h = some r) : fd_S g mX9_stands 9 [.ref (g.2.2.2 + 73), .int a1, .int a2] fd_X0 (fd_mx hm h) (some (.int r.1)) fd_X0 (fd_mx hm r.2) 0 0 := by
  refine fd_S.of (by decide +kernel) (Nat.le_of_ble_eq_true rfl) ?_
  unfold fX9_stands at hf
  refine fr_loc (lv' := [(0, .ref (g.2.2.2 + 73)), (1, .int a1), (2, .int a2)]) [0, 1, 2] rfl ?_
  refine fr_aload_n (pc := 0) dX9_stands_0 0 rfl rfl ?_
  refine fr_iload_n (pc := 1) dX9_stands_1 1 rfl rfl ?_
  obtain ⟨q2, hc1, hf⟩ := fd_bi hf
  refine fr_callVz (pc := 2) (av := [.int a1]) dX9_stands_2 yy_X9_isDebt kw_555 (by decide) rfl rfl rfl rfl (Nat.le_of_ble_eq_true rfl) ⟨Nat.le_of_ble_eq_true rfl, Nat.le_of_ble_eq_true rfl, Nat.zero_le _, Nat.zero_le _⟩ (sX9_isDebt hc1) ?_
  refine fr_bz (pc := 5) 24 dX9_stands_5 (by decide) (fun c3 => ?_) (fun c3 => ?_)
  · have hf := fd_f c3 hf
    refine fr_bipush (pc := 24) (v := (-2 : Int32)) dX9_stands_24 (by decide) ?_
    exact vm_iretW (x := (-2 : Int32)) (pc := 26) dX9_stands_26 rfl hf
  · have hf := fd_t c3 hf
    refine fr_iload_n (pc := 8) dX9_stands_8 2 rfl rfl ?_
    obtain ⟨r5, hc4, hf⟩ := fd_bi hf
    refine fr_callSz (pc := 9) (av := [.int a2]) dX9_stands_9 yy_X9_isForty kw_246 rfl rfl (Nat.le_of_ble_eq_true rfl) ⟨Nat.le_of_ble_eq_true rfl, Nat.le_of_ble_eq_true rfl, Nat.zero_le _, Nat.zero_le _⟩ (sX9_isForty hc4) ?_
    refine fr_bz (pc := 12) 24 dX9_stands_12 (by decide) (fun c6 => ?_) (fun c6 => ?_)
    · have hf := fd_f c6 hf
      refine fr_bipush (pc := 24) (v := (-2 : Int32)) dX9_stands_24 (by decide) ?_
      exact vm_iretW (x := (-2 : Int32)) (pc := 26) dX9_stands_26 rfl hf
    · have hf := fd_t c6 hf
      refine fr_aload_n (pc := 15) dX9_stands_15 0 rfl rfl ?_
      refine fr_iload_n (pc := 16) dX9_stands_16 1 rfl rfl ?_
      refine fr_iload_n (pc := 17) dX9_stands_17 2 rfl rfl ?_
      obtain ⟨q8, hc7, hf⟩ := fd_bi hf
      refine fr_callVi (pc := 18) (av := [.int a1, .int a2]) dX9_stands_18 yy_X9_standsOf kw_638 (by decide) rfl rfl rfl rfl (Nat.le_of_ble_eq_true rfl) ⟨Nat.le_of_ble_eq_true rfl, Nat.le_of_ble_eq_true rfl, Nat.zero_le _, Nat.zero_le _⟩ (sX9_standsOf hc7) ?_
      refine fr_goto (pc := 21) 26 dX9_stands_21 (by decide) ?_
      exact vm_iretW (x := q8.1) (pc := 26) dX9_stands_26 rfl hf
theorem dX9_lasts_0 : decode cX9_lasts 0 = .ok (.aload_n 0, 1) := by decide +kernel
theorem dX9_lasts_1 : decode cX9_lasts 1 = .ok (.iload_n 1, 1) := by decide +kernel
theorem dX9_lasts_2 : decode cX9_lasts 2 = .ok (.invokevirtual 140, 3) := by decide +kernel
theorem dX9_lasts_5 : decode cX9_lasts 5 = .ok (.ifCond .eq 21, 3) := by decide +kernel
theorem dX9_lasts_8 : decode cX9_lasts 8 = .ok (.iload_n 2, 1) := by decide +kernel
theorem dX9_lasts_9 : decode cX9_lasts 9 = .ok (.iconst 0, 1) := by decide +kernel
theorem dX9_lasts_10 : decode cX9_lasts 10 = .ok (.iconst 1, 1) := by decide +kernel
theorem dX9_lasts_11 : decode cX9_lasts 11 = .ok (.invokestatic 89, 3) := by decide +kernel
theorem dX9_lasts_14 : decode cX9_lasts 14 = .ok (.ifCond .eq 12, 3) := by decide +kernel
theorem dX9_lasts_17 : decode cX9_lasts 17 = .ok (.aload_n 0, 1) := by decide +kernel
theorem dX9_lasts_18 : decode cX9_lasts 18 = .ok (.iload_n 1, 1) := by decide +kernel
theorem dX9_lasts_19 : decode cX9_lasts 19 = .ok (.iload_n 2, 1) := by decide +kernel
theorem dX9_lasts_20 : decode cX9_lasts 20 = .ok (.invokevirtual 201, 3) := by decide +kernel
theorem dX9_lasts_23 : decode cX9_lasts 23 = .ok (.goto 5, 3) := by decide +kernel
theorem dX9_lasts_26 : decode cX9_lasts 26 = .ok (.bipush (-2), 2) := by decide +kernel
theorem dX9_lasts_28 : decode cX9_lasts 28 = .ok (.ireturn, 1) := by decide +kernel
def fX9_lasts (a1 : Int32) (a2 : Int32) (h : fd_H) : Option (Int32 × fd_H) :=
(fX9_isDebt a1 h).bind fun q2 =>
if q2.1 = true then (
(fX9_in a2 (0 : Int32) (1 : Int32)).bind fun r5 =>
if r5 = true then (
(fX9_lastsOf a1 a2 q2.2).bind fun q8 =>
some (q8.1, q8.2))
else (
some ((-2 : Int32), q2.2)))
else (
some ((-2 : Int32), q2.2))
set_option maxRecDepth 100000 in
set_option maxHeartbeats 4000000 in
theorem sX9_lasts {g : fd_G} {hm : fd_H} {a1 : Int32} {a2 : Int32} {r : Int32 × fd_H} {h : fd_H} (hf : fX9_lasts a1 a2 h = some r) : fd_S g mX9_lasts 9 [.ref (g.2.2.2 + 73), .int a1, .int a2] fd_X0 (fd_mx hm h) (some (.int r.1)) fd_X0 (fd_mx hm r.2) 0 0 := by
  refine fd_S.of (by decide +kernel) (Nat.le_of_ble_eq_true rfl) ?_
  unfold fX9_lasts at hf
  refine fr_loc (lv' := [(0, .ref (g.2.2.2 + 73)), (1, .int a1), (2, .int a2)]) [0, 1, 2] rfl ?_
  refine fr_aload_n (pc := 0) dX9_lasts_0 0 rfl rfl ?_
  refine fr_iload_n (pc := 1) dX9_lasts_1 1 rfl rfl ?_
  obtain ⟨q2, hc1, hf⟩ := fd_bi hf
  refine fr_callVz (pc := 2) (av := [.int a1]) dX9_lasts_2 yy_X9_isDebt kw_555 (by decide) rfl rfl rfl rfl (Nat.le_of_ble_eq_true rfl) ⟨Nat.le_of_ble_eq_true rfl, Nat.le_of_ble_eq_true rfl, Nat.zero_le _, Nat.zero_le _⟩ (sX9_isDebt hc1) ?_
  refine fr_bz (pc := 5) 26 dX9_lasts_5 (by decide) (fun c3 => ?_) (fun c3 => ?_)
  · have hf := fd_f c3 hf
    refine fr_bipush (pc := 26) (v := (-2 : Int32)) dX9_lasts_26 (by decide) ?_
    exact vm_iretW (x := (-2 : Int32)) (pc := 28) dX9_lasts_28 rfl hf
  · have hf := fd_t c3 hf
    refine fr_iload_n (pc := 8) dX9_lasts_8 2 rfl rfl ?_
    refine fr_iconst (pc := 9) (v := (0 : Int32)) dX9_lasts_9 (by decide) ?_
    refine fr_iconst (pc := 10) (v := (1 : Int32)) dX9_lasts_10 (by decide) ?_
    obtain ⟨r5, hc4, hf⟩ := fd_bi hf
    refine fr_callSz (pc := 11) (av := [.int a2, .int (0 : Int32), .int (1 : Int32)]) dX9_lasts_11 yy_X9_in kw_148 rfl rfl (Nat.le_of_ble_eq_true rfl) ⟨Nat.le_of_ble_eq_true rfl, Nat.le_of_ble_eq_true rfl, Nat.zero_le _, Nat.zero_le _⟩ (sX9_in hc4) ?_
    refine fr_bz (pc := 14) 26 dX9_lasts_14 (by decide) (fun c6 => ?_) (fun c6 => ?_)
    · have hf := fd_f c6 hf
      refine fr_bipush (pc := 26) (v := (-2 : Int32)) dX9_lasts_26 (by decide) ?_
      exact vm_iretW (x := (-2 : Int32)) (pc := 28) dX9_lasts_28 rfl hf
    · have hf := fd_t c6 hf
      refine fr_aload_n (pc := 17) dX9_lasts_17 0 rfl rfl ?_
      refine fr_iload_n (pc := 18) dX9_lasts_18 1 rfl rfl ?_
      refine fr_iload_n (pc := 19) dX9_lasts_19 2 rfl rfl ?_
      obtain ⟨q8, hc7, hf⟩ := fd_bi hf
      refine fr_callVi (pc := 20) (av := [.int a1, .int a2]) dX9_lasts_20 yy_X9_lastsOf kw_642 (by decide) rfl rfl rfl rfl (Nat.le_of_ble_eq_true rfl) ⟨Nat.le_of_ble_eq_true rfl, Nat.le_of_ble_eq_true rfl, Nat.zero_le _, Nat.zero_le _⟩ (sX9_lastsOf hc7) ?_
      refine fr_goto (pc := 23) 28 dX9_lasts_23 (by decide) ?_
      exact vm_iretW (x := q8.1) (pc := 28) dX9_lasts_28 rfl hf
theorem dX9_never_0 : decode cX9_never 0 = .ok (.aload_n 0, 1) := by decide +kernel
theorem dX9_never_1 : decode cX9_never 1 = .ok (.invokevirtual 204, 3) := by decide +kernel
theorem dX9_never_4 : decode cX9_never 4 = .ok (.ireturn, 1) := by decide +kernel
def fX9_never  (h : fd_H) : Option (Int32 × fd_H) :=
(fX9_neverNow h).bind fun q2 =>
some (q2.1, q2.2)
set_option maxRecDepth 100000 in
set_option maxHeartbeats 4000000 in
theorem sX9_never {g : fd_G} {hm : fd_H} {r : Int32 × fd_H} {h : fd_H} (hf : fX9_never  h = some r) : fd_S g mX9_never 9 [.ref (g.2.2.2 + 73)] fd_X0 (fd_mx hm h) (some (.int r.1)) fd_X0 (fd_mx hm r.2) 0 0 := by
  refine fd_S.of (by decide +kernel) (Nat.le_of_ble_eq_true rfl) ?_
  unfold fX9_never at hf
  refine fr_loc (lv' := [(0, .ref (g.2.2.2 + 73))]) [0] rfl ?_
  refine fr_aload_n (pc := 0) dX9_never_0 0 rfl rfl ?_
  obtain ⟨q2, hc1, hf⟩ := fd_bi hf
  refine fr_callVi (pc := 1) (av := []) dX9_never_1 yy_X9_neverNow kw_646 (by decide) rfl rfl rfl rfl (Nat.le_of_ble_eq_true rfl) ⟨Nat.le_of_ble_eq_true rfl, Nat.le_of_ble_eq_true rfl, Nat.zero_le _, Nat.zero_le _⟩ (sX9_neverNow hc1) ?_
  exact vm_iretW (x := q2.1) (pc := 4) dX9_never_4 rfl hf
theorem dX9_owes_0 : decode cX9_owes 0 = .ok (.iload_n 1, 1) := by decide +kernel
theorem dX9_owes_1 : decode cX9_owes 1 = .ok (.iconst 0, 1) := by decide +kernel
theorem dX9_owes_2 : decode cX9_owes 2 = .ok (.iconst 5, 1) := by decide +kernel
theorem dX9_owes_3 : decode cX9_owes 3 = .ok (.invokestatic 89, 3) := by decide +kernel
theorem dX9_owes_6 : decode cX9_owes 6 = .ok (.ifCond .eq 29, 3) := by decide +kernel
theorem dX9_owes_9 : decode cX9_owes 9 = .ok (.iload_n 2, 1) := by decide +kernel
theorem dX9_owes_10 : decode cX9_owes 10 = .ok (.invokestatic 146, 3) := by decide +kernel
theorem dX9_owes_13 : decode cX9_owes 13 = .ok (.ifCond .eq 22, 3) := by decide +kernel
theorem dX9_owes_16 : decode cX9_owes 16 = .ok (.iload_n 3, 1) := by decide +kernel
theorem dX9_owes_17 : decode cX9_owes 17 = .ok (.iconst 0, 1) := by decide +kernel
theorem dX9_owes_18 : decode cX9_owes 18 = .ok (.iconst 1, 1) := by decide +kernel
theorem dX9_owes_19 : decode cX9_owes 19 = .ok (.invokestatic 89, 3) := by decide +kernel
theorem dX9_owes_22 : decode cX9_owes 22 = .ok (.ifCond .eq 13, 3) := by decide +kernel
theorem dX9_owes_25 : decode cX9_owes 25 = .ok (.aload_n 0, 1) := by decide +kernel
theorem dX9_owes_26 : decode cX9_owes 26 = .ok (.iload_n 1, 1) := by decide +kernel
theorem dX9_owes_27 : decode cX9_owes 27 = .ok (.iload_n 2, 1) := by decide +kernel
theorem dX9_owes_28 : decode cX9_owes 28 = .ok (.iload_n 3, 1) := by decide +kernel
theorem dX9_owes_29 : decode cX9_owes 29 = .ok (.invokevirtual 210, 3) := by decide +kernel
theorem dX9_owes_32 : decode cX9_owes 32 = .ok (.goto 5, 3) := by decide +kernel
theorem dX9_owes_35 : decode cX9_owes 35 = .ok (.bipush (-2), 2) := by decide +kernel
theorem dX9_owes_37 : decode cX9_owes 37 = .ok (.ireturn, 1) := by decide +kernel
def fX9_owes (a1 : Int32) (a2 : Int32) (a3 : Int32) (h : fd_H) : Option (Int32 × fd_H) :=
(fX9_in a1 (0 : Int32) (5 : Int32)).bind fun r2 =>
if r2 = true then (
(fX9_isForty a2).bind fun r5 =>
if r5 = true then (
(fX9_in a3 (0 : Int32) (1 : Int32)).bind fun r8 =>
if r8 = true then (
(fX9_owesOf a1 a2 a3 h).bind fun q11 =>
some (q11.1, q11.2))
else (
some ((-2 : Int32), h)))
else (
some ((-2 : Int32), h)))
else (
some ((-2 : Int32), h))
set_option maxRecDepth 100000 in
set_option maxHeartbeats 4000000 in
theorem sX9_owes {g : fd_G} {hm : fd_H} {a1 : Int32} {a2 : Int32} {a3 : Int32} {r : Int32 × fd_H} {h : fd_H} (hf : fX9_owes a1 a2 a3 h = some r) : fd_S g mX9_owes 9 [.ref (g.2.2.2 + 73), .int a1, .int a2, .int a3] fd_X0 (fd_mx hm h) (some (.int r.1)) fd_X0 (fd_mx hm r.2) 0 0 := by
  refine fd_S.of (by decide +kernel) (Nat.le_of_ble_eq_true rfl) ?_
  unfold fX9_owes at hf
  refine fr_loc (lv' := [(0, .ref (g.2.2.2 + 73)), (1, .int a1), (2, .int a2), (3, .int a3)]) [0, 1, 2, 3] rfl ?_
  refine fr_iload_n (pc := 0) dX9_owes_0 1 rfl rfl ?_
  refine fr_iconst (pc := 1) (v := (0 : Int32)) dX9_owes_1 (by decide) ?_
  refine fr_iconst (pc := 2) (v := (5 : Int32)) dX9_owes_2 (by decide) ?_
  obtain ⟨r2, hc1, hf⟩ := fd_bi hf
  refine fr_callSz (pc := 3) (av := [.int a1, .int (0 : Int32), .int (5 : Int32)]) dX9_owes_3 yy_X9_in kw_148 rfl rfl (Nat.le_of_ble_eq_true rfl) ⟨Nat.le_of_ble_eq_true rfl, Nat.le_of_ble_eq_true rfl, Nat.zero_le _, Nat.zero_le _⟩ (sX9_in hc1) ?_
  refine fr_bz (pc := 6) 35 dX9_owes_6 (by decide) (fun c3 => ?_) (fun c3 => ?_)
  · have hf := fd_f c3 hf
    refine fr_bipush (pc := 35) (v := (-2 : Int32)) dX9_owes_35 (by decide) ?_
    exact vm_iretW (x := (-2 : Int32)) (pc := 37) dX9_owes_37 rfl hf
  · have hf := fd_t c3 hf
    refine fr_iload_n (pc := 9) dX9_owes_9 2 rfl rfl ?_
    obtain ⟨r5, hc4, hf⟩ := fd_bi hf
    refine fr_callSz (pc := 10) (av := [.int a2]) dX9_owes_10 yy_X9_isForty kw_246 rfl rfl (Nat.le_of_ble_eq_true rfl) ⟨Nat.le_of_ble_eq_true rfl, Nat.le_of_ble_eq_true rfl, Nat.zero_le _, Nat.zero_le _⟩ (sX9_isForty hc4) ?_
    refine fr_bz (pc := 13) 35 dX9_owes_13 (by decide) (fun c6 => ?_) (fun c6 => ?_)
    · have hf := fd_f c6 hf
      refine fr_bipush (pc := 35) (v := (-2 : Int32)) dX9_owes_35 (by decide) ?_
      exact vm_iretW (x := (-2 : Int32)) (pc := 37) dX9_owes_37 rfl hf
    · have hf := fd_t c6 hf
      refine fr_iload_n (pc := 16) dX9_owes_16 3 rfl rfl ?_
      refine fr_iconst (pc := 17) (v := (0 : Int32)) dX9_owes_17 (by decide) ?_
      refine fr_iconst (pc := 18) (v := (1 : Int32)) dX9_owes_18 (by decide) ?_
      obtain ⟨r8, hc7, hf⟩ := fd_bi hf
      refine fr_callSz (pc := 19) (av := [.int a3, .int (0 : Int32), .int (1 : Int32)]) dX9_owes_19 yy_X9_in kw_148 rfl rfl (Nat.le_of_ble_eq_true rfl) ⟨Nat.le_of_ble_eq_true rfl, Nat.le_of_ble_eq_true rfl, Nat.zero_le _, Nat.zero_le _⟩ (sX9_in hc7) ?_
      refine fr_bz (pc := 22) 35 dX9_owes_22 (by decide) (fun c9 => ?_) (fun c9 => ?_)
      · have hf := fd_f c9 hf
        refine fr_bipush (pc := 35) (v := (-2 : Int32)) dX9_owes_35 (by decide) ?_
        exact vm_iretW (x := (-2 : Int32)) (pc := 37) dX9_owes_37 rfl hf
      · have hf := fd_t c9 hf
        refine fr_aload_n (pc := 25) dX9_owes_25 0 rfl rfl ?_
        refine fr_iload_n (pc := 26) dX9_owes_26 1 rfl rfl ?_
        refine fr_iload_n (pc := 27) dX9_owes_27 2 rfl rfl ?_
        refine fr_iload_n (pc := 28) dX9_owes_28 3 rfl rfl ?_
        obtain ⟨q11, hc10, hf⟩ := fd_bi hf
        refine fr_callVi (pc := 29) (av := [.int a1, .int a2, .int a3]) dX9_owes_29 yy_X9_owesOf kw_650 (by decide) rfl rfl rfl rfl (Nat.le_of_ble_eq_true rfl) ⟨Nat.le_of_ble_eq_true rfl, Nat.le_of_ble_eq_true rfl, Nat.zero_le _, Nat.zero_le _⟩ (sX9_owesOf hc10) ?_
        refine fr_goto (pc := 32) 37 dX9_owes_32 (by decide) ?_
        exact vm_iretW (x := q11.1) (pc := 37) dX9_owes_37 rfl hf
theorem dX9_hangs_0 : decode cX9_hangs 0 = .ok (.iload_n 1, 1) := by decide +kernel
theorem dX9_hangs_1 : decode cX9_hangs 1 = .ok (.invokestatic 146, 3) := by decide +kernel
theorem dX9_hangs_4 : decode cX9_hangs 4 = .ok (.ifCond .eq 11, 3) := by decide +kernel
theorem dX9_hangs_7 : decode cX9_hangs 7 = .ok (.aload_n 0, 1) := by decide +kernel
theorem dX9_hangs_8 : decode cX9_hangs 8 = .ok (.iload_n 1, 1) := by decide +kernel
theorem dX9_hangs_9 : decode cX9_hangs 9 = .ok (.invokevirtual 213, 3) := by decide +kernel
theorem dX9_hangs_12 : decode cX9_hangs 12 = .ok (.goto 5, 3) := by decide +kernel
theorem dX9_hangs_15 : decode cX9_hangs 15 = .ok (.bipush (-2), 2) := by decide +kernel
theorem dX9_hangs_17 : decode cX9_hangs 17 = .ok (.ireturn, 1) := by decide +kernel
def fX9_hangs (a1 : Int32) (h : fd_H) : Option (Int32 × fd_H) :=
(fX9_isForty a1).bind fun r2 =>
if r2 = true then (
(fX9_hangsOf a1 h).bind fun q5 =>
some (q5.1, q5.2))
else (
some ((-2 : Int32), h))
set_option maxRecDepth 100000 in
set_option maxHeartbeats 4000000 in
theorem sX9_hangs {g : fd_G} {hm : fd_H} {a1 : Int32} {r : Int32 × fd_H} {h : fd_H} (hf : fX9_hangs a1 h = some r) : fd_S g mX9_hangs 9 [.ref (g.2.2.2 + 73), .int a1] fd_X0 (fd_mx hm h) (some (.int r.1)) fd_X0 (fd_mx hm r.2) 0 0 := by
  refine fd_S.of (by decide +kernel) (Nat.le_of_ble_eq_true rfl) ?_
  unfold fX9_hangs at hf
  refine fr_loc (lv' := [(0, .ref (g.2.2.2 + 73)), (1, .int a1)]) [0, 1] rfl ?_
  refine fr_iload_n (pc := 0) dX9_hangs_0 1 rfl rfl ?_
  obtain ⟨r2, hc1, hf⟩ := fd_bi hf
  refine fr_callSz (pc := 1) (av := [.int a1]) dX9_hangs_1 yy_X9_isForty kw_246 rfl rfl (Nat.le_of_ble_eq_true rfl) ⟨Nat.le_of_ble_eq_true rfl, Nat.le_of_ble_eq_true rfl, Nat.zero_le _, Nat.zero_le _⟩ (sX9_isForty hc1) ?_
  refine fr_bz (pc := 4) 15 dX9_hangs_4 (by decide) (fun c3 => ?_) (fun c3 => ?_)
  · have hf := fd_f c3 hf
    refine fr_bipush (pc := 15) (v := (-2 : Int32)) dX9_hangs_15 (by decide) ?_
    exact vm_iretW (x := (-2 : Int32)) (pc := 17) dX9_hangs_17 rfl hf
  · have hf := fd_t c3 hf
    refine fr_aload_n (pc := 7) dX9_hangs_7 0 rfl rfl ?_
    refine fr_iload_n (pc := 8) dX9_hangs_8 1 rfl rfl ?_
    obtain ⟨q5, hc4, hf⟩ := fd_bi hf
    refine fr_callVi (pc := 9) (av := [.int a1]) dX9_hangs_9 yy_X9_hangsOf kw_654 (by decide) rfl rfl rfl rfl (Nat.le_of_ble_eq_true rfl) ⟨Nat.le_of_ble_eq_true rfl, Nat.le_of_ble_eq_true rfl, Nat.zero_le _, Nat.zero_le _⟩ (sX9_hangsOf hc4) ?_
    refine fr_goto (pc := 12) 17 dX9_hangs_12 (by decide) ?_
    exact vm_iretW (x := q5.1) (pc := 17) dX9_hangs_17 rfl hf
theorem dX9_free_0 : decode cX9_free 0 = .ok (.iload_n 1, 1) := by decide +kernel
theorem dX9_free_1 : decode cX9_free 1 = .ok (.iconst 0, 1) := by decide +kernel
theorem dX9_free_2 : decode cX9_free 2 = .ok (.iconst 5, 1) := by decide +kernel
theorem dX9_free_3 : decode cX9_free 3 = .ok (.invokestatic 89, 3) := by decide +kernel
theorem dX9_free_6 : decode cX9_free 6 = .ok (.ifCond .eq 19, 3) := by decide +kernel
theorem dX9_free_9 : decode cX9_free 9 = .ok (.iload_n 2, 1) := by decide +kernel
theorem dX9_free_10 : decode cX9_free 10 = .ok (.invokestatic 146, 3) := by decide +kernel
theorem dX9_free_13 : decode cX9_free 13 = .ok (.ifCond .eq 12, 3) := by decide +kernel
theorem dX9_free_16 : decode cX9_free 16 = .ok (.aload_n 0, 1) := by decide +kernel
theorem dX9_free_17 : decode cX9_free 17 = .ok (.iload_n 1, 1) := by decide +kernel
theorem dX9_free_18 : decode cX9_free 18 = .ok (.iload_n 2, 1) := by decide +kernel
theorem dX9_free_19 : decode cX9_free 19 = .ok (.invokevirtual 216, 3) := by decide +kernel
theorem dX9_free_22 : decode cX9_free 22 = .ok (.goto 5, 3) := by decide +kernel
theorem dX9_free_25 : decode cX9_free 25 = .ok (.bipush (-2), 2) := by decide +kernel
theorem dX9_free_27 : decode cX9_free 27 = .ok (.ireturn, 1) := by decide +kernel
def fX9_free (a1 : Int32) (a2 : Int32) (h : fd_H) : Option (Int32 × fd_H) :=
(fX9_in a1 (0 : Int32) (5 : Int32)).bind fun r2 =>
if r2 = true then (
(fX9_isForty a2).bind fun r5 =>
if r5 = true then (
(fX9_freeOf a1 a2 h).bind fun q8 =>
some (q8.1, q8.2))
else (
some ((-2 : Int32), h)))
else (
some ((-2 : Int32), h))
set_option maxRecDepth 100000 in
set_option maxHeartbeats 4000000 in
theorem sX9_free {g : fd_G} {hm : fd_H} {a1 : Int32} {a2 : Int32} {r : Int32 × fd_H} {h : fd_H} (hf : fX9_free a1 a2 h = some r) : fd_S g mX9_free 9 [.ref (g.2.2.2 + 73), .int a1, .int a2] fd_X0 (fd_mx hm h) (some (.int r.1)) fd_X0 (fd_mx hm r.2) 0 0 := by
  refine fd_S.of (by decide +kernel) (Nat.le_of_ble_eq_true rfl) ?_
  unfold fX9_free at hf
  refine fr_loc (lv' := [(0, .ref (g.2.2.2 + 73)), (1, .int a1), (2, .int a2)]) [0, 1, 2] rfl ?_
  refine fr_iload_n (pc := 0) dX9_free_0 1 rfl rfl ?_
  refine fr_iconst (pc := 1) (v := (0 : Int32)) dX9_free_1 (by decide) ?_
  refine fr_iconst (pc := 2) (v := (5 : Int32)) dX9_free_2 (by decide) ?_
  obtain ⟨r2, hc1, hf⟩ := fd_bi hf
  refine fr_callSz (pc := 3) (av := [.int a1, .int (0 : Int32), .int (5 : Int32)]) dX9_free_3 yy_X9_in kw_148 rfl rfl (Nat.le_of_ble_eq_true rfl) ⟨Nat.le_of_ble_eq_true rfl, Nat.le_of_ble_eq_true rfl, Nat.zero_le _, Nat.zero_le _⟩ (sX9_in hc1) ?_
  refine fr_bz (pc := 6) 25 dX9_free_6 (by decide) (fun c3 => ?_) (fun c3 => ?_)
  · have hf := fd_f c3 hf
    refine fr_bipush (pc := 25) (v := (-2 : Int32)) dX9_free_25 (by decide) ?_
    exact vm_iretW (x := (-2 : Int32)) (pc := 27) dX9_free_27 rfl hf
  · have hf := fd_t c3 hf
    refine fr_iload_n (pc := 9) dX9_free_9 2 rfl rfl ?_
    obtain ⟨r5, hc4, hf⟩ := fd_bi hf
    refine fr_callSz (pc := 10) (av := [.int a2]) dX9_free_10 yy_X9_isForty kw_246 rfl rfl (Nat.le_of_ble_eq_true rfl) ⟨Nat.le_of_ble_eq_true rfl, Nat.le_of_ble_eq_true rfl, Nat.zero_le _, Nat.zero_le _⟩ (sX9_isForty hc4) ?_
    refine fr_bz (pc := 13) 25 dX9_free_13 (by decide) (fun c6 => ?_) (fun c6 => ?_)
    · have hf := fd_f c6 hf
      refine fr_bipush (pc := 25) (v := (-2 : Int32)) dX9_free_25 (by decide) ?_
      exact vm_iretW (x := (-2 : Int32)) (pc := 27) dX9_free_27 rfl hf
    · have hf := fd_t c6 hf
      refine fr_aload_n (pc := 16) dX9_free_16 0 rfl rfl ?_
      refine fr_iload_n (pc := 17) dX9_free_17 1 rfl rfl ?_
      refine fr_iload_n (pc := 18) dX9_free_18 2 rfl rfl ?_
      obtain ⟨q8, hc7, hf⟩ := fd_bi hf
      refine fr_callVi (pc := 19) (av := [.int a1, .int a2]) dX9_free_19 yy_X9_freeOf kw_658 (by decide) rfl rfl rfl rfl (Nat.le_of_ble_eq_true rfl) ⟨Nat.le_of_ble_eq_true rfl, Nat.le_of_ble_eq_true rfl, Nat.zero_le _, Nat.zero_le _⟩ (sX9_freeOf hc7) ?_
      refine fr_goto (pc := 22) 27 dX9_free_22 (by decide) ?_
      exact vm_iretW (x := q8.1) (pc := 27) dX9_free_27 rfl hf
theorem dX9_where_0 : decode cX9_where 0 = .ok (.aload_n 0, 1) := by decide +kernel
theorem dX9_where_1 : decode cX9_where 1 = .ok (.iload_n 1, 1) := by decide +kernel
theorem dX9_where_2 : decode cX9_where 2 = .ok (.invokevirtual 140, 3) := by decide +kernel
theorem dX9_where_5 : decode cX9_where 5 = .ok (.ifCond .eq 31, 3) := by decide +kernel
theorem dX9_where_8 : decode cX9_where 8 = .ok (.iload_n 2, 1) := by decide +kernel
theorem dX9_where_9 : decode cX9_where 9 = .ok (.iconst 0, 1) := by decide +kernel
theorem dX9_where_10 : decode cX9_where 10 = .ok (.iconst 1, 1) := by decide +kernel
theorem dX9_where_11 : decode cX9_where 11 = .ok (.invokestatic 89, 3) := by decide +kernel
theorem dX9_where_14 : decode cX9_where 14 = .ok (.ifCond .eq 22, 3) := by decide +kernel
theorem dX9_where_17 : decode cX9_where 17 = .ok (.iload_n 3, 1) := by decide +kernel
theorem dX9_where_18 : decode cX9_where 18 = .ok (.iconst 0, 1) := by decide +kernel
theorem dX9_where_19 : decode cX9_where 19 = .ok (.iconst 1, 1) := by decide +kernel
theorem dX9_where_20 : decode cX9_where 20 = .ok (.invokestatic 89, 3) := by decide +kernel
theorem dX9_where_23 : decode cX9_where 23 = .ok (.ifCond .eq 13, 3) := by decide +kernel
theorem dX9_where_26 : decode cX9_where 26 = .ok (.aload_n 0, 1) := by decide +kernel
theorem dX9_where_27 : decode cX9_where 27 = .ok (.iload_n 1, 1) := by decide +kernel
theorem dX9_where_28 : decode cX9_where 28 = .ok (.iload_n 2, 1) := by decide +kernel
theorem dX9_where_29 : decode cX9_where 29 = .ok (.iload_n 3, 1) := by decide +kernel
theorem dX9_where_30 : decode cX9_where 30 = .ok (.invokevirtual 219, 3) := by decide +kernel
theorem dX9_where_33 : decode cX9_where 33 = .ok (.goto 5, 3) := by decide +kernel
theorem dX9_where_36 : decode cX9_where 36 = .ok (.bipush (-2), 2) := by decide +kernel
theorem dX9_where_38 : decode cX9_where 38 = .ok (.ireturn, 1) := by decide +kernel
def fX9_where (a1 : Int32) (a2 : Int32) (a3 : Int32) (h : fd_H) : Option (Int32 × fd_H) :=
(fX9_isDebt a1 h).bind fun q2 =>
if q2.1 = true then (
(fX9_in a2 (0 : Int32) (1 : Int32)).bind fun r5 =>
if r5 = true then (
(fX9_in a3 (0 : Int32) (1 : Int32)).bind fun r8 =>
if r8 = true then (
(fX9_whereOf a1 a2 a3 q2.2).bind fun q11 =>
some (q11.1, q11.2))
else (
some ((-2 : Int32), q2.2)))
else (
some ((-2 : Int32), q2.2)))
else (
some ((-2 : Int32), q2.2))
set_option maxRecDepth 100000 in
set_option maxHeartbeats 4000000 in
theorem sX9_where {g : fd_G} {hm : fd_H} {a1 : Int32} {a2 : Int32} {a3 : Int32} {r : Int32 × fd_H} {h : fd_H} (hf : fX9_where a1 a2 a3 h = some r) : fd_S g mX9_where 9 [.ref (g.2.2.2 + 73), .int a1, .int a2, .int a3] fd_X0 (fd_mx hm h) (some (.int r.1)) fd_X0 (fd_mx hm r.2) 0 0 := by
  refine fd_S.of (by decide +kernel) (Nat.le_of_ble_eq_true rfl) ?_
  unfold fX9_where at hf
  refine fr_loc (lv' := [(0, .ref (g.2.2.2 + 73)), (1, .int a1), (2, .int a2), (3, .int a3)]) [0, 1, 2, 3] rfl ?_
  refine fr_aload_n (pc := 0) dX9_where_0 0 rfl rfl ?_
  refine fr_iload_n (pc := 1) dX9_where_1 1 rfl rfl ?_
  obtain ⟨q2, hc1, hf⟩ := fd_bi hf
  refine fr_callVz (pc := 2) (av := [.int a1]) dX9_where_2 yy_X9_isDebt kw_555 (by decide) rfl rfl rfl rfl (Nat.le_of_ble_eq_true rfl) ⟨Nat.le_of_ble_eq_true rfl, Nat.le_of_ble_eq_true rfl, Nat.zero_le _, Nat.zero_le _⟩ (sX9_isDebt hc1) ?_
  refine fr_bz (pc := 5) 36 dX9_where_5 (by decide) (fun c3 => ?_) (fun c3 => ?_)
  · have hf := fd_f c3 hf
    refine fr_bipush (pc := 36) (v := (-2 : Int32)) dX9_where_36 (by decide) ?_
    exact vm_iretW (x := (-2 : Int32)) (pc := 38) dX9_where_38 rfl hf
  · have hf := fd_t c3 hf
    refine fr_iload_n (pc := 8) dX9_where_8 2 rfl rfl ?_
    refine fr_iconst (pc := 9) (v := (0 : Int32)) dX9_where_9 (by decide) ?_
    refine fr_iconst (pc := 10) (v := (1 : Int32)) dX9_where_10 (by decide) ?_
    obtain ⟨r5, hc4, hf⟩ := fd_bi hf
    refine fr_callSz (pc := 11) (av := [.int a2, .int (0 : Int32), .int (1 : Int32)]) dX9_where_11 yy_X9_in kw_148 rfl rfl (Nat.le_of_ble_eq_true rfl) ⟨Nat.le_of_ble_eq_true rfl, Nat.le_of_ble_eq_true rfl, Nat.zero_le _, Nat.zero_le _⟩ (sX9_in hc4) ?_
    refine fr_bz (pc := 14) 36 dX9_where_14 (by decide) (fun c6 => ?_) (fun c6 => ?_)
    · have hf := fd_f c6 hf
      refine fr_bipush (pc := 36) (v := (-2 : Int32)) dX9_where_36 (by decide) ?_
      exact vm_iretW (x := (-2 : Int32)) (pc := 38) dX9_where_38 rfl hf
    · have hf := fd_t c6 hf
      refine fr_iload_n (pc := 17) dX9_where_17 3 rfl rfl ?_
      refine fr_iconst (pc := 18) (v := (0 : Int32)) dX9_where_18 (by decide) ?_
      refine fr_iconst (pc := 19) (v := (1 : Int32)) dX9_where_19 (by decide) ?_
      obtain ⟨r8, hc7, hf⟩ := fd_bi hf
      refine fr_callSz (pc := 20) (av := [.int a3, .int (0 : Int32), .int (1 : Int32)]) dX9_where_20 yy_X9_in kw_148 rfl rfl (Nat.le_of_ble_eq_true rfl) ⟨Nat.le_of_ble_eq_true rfl, Nat.le_of_ble_eq_true rfl, Nat.zero_le _, Nat.zero_le _⟩ (sX9_in hc7) ?_
      refine fr_bz (pc := 23) 36 dX9_where_23 (by decide) (fun c9 => ?_) (fun c9 => ?_)
      · have hf := fd_f c9 hf
        refine fr_bipush (pc := 36) (v := (-2 : Int32)) dX9_where_36 (by decide) ?_
        exact vm_iretW (x := (-2 : Int32)) (pc := 38) dX9_where_38 rfl hf
      · have hf := fd_t c9 hf
        refine fr_aload_n (pc := 26) dX9_where_26 0 rfl rfl ?_
        refine fr_iload_n (pc := 27) dX9_where_27 1 rfl rfl ?_
        refine fr_iload_n (pc := 28) dX9_where_28 2 rfl rfl ?_
        refine fr_iload_n (pc := 29) dX9_where_29 3 rfl rfl ?_
        obtain ⟨q11, hc10, hf⟩ := fd_bi hf
        refine fr_callVi (pc := 30) (av := [.int a1, .int a2, .int a3]) dX9_where_30 yy_X9_whereOf kw_662 (by decide) rfl rfl rfl rfl (Nat.le_of_ble_eq_true rfl) ⟨Nat.le_of_ble_eq_true rfl, Nat.le_of_ble_eq_true rfl, Nat.zero_le _, Nat.zero_le _⟩ (sX9_whereOf hc10) ?_
        refine fr_goto (pc := 33) 38 dX9_where_33 (by decide) ?_
        exact vm_iretW (x := q11.1) (pc := 38) dX9_where_38 rfl hf
theorem dX9_carry_0 : decode cX9_carry 0 = .ok (.iload_n 1, 1) := by decide +kernel
theorem dX9_carry_1 : decode cX9_carry 1 = .ok (.iconst 0, 1) := by decide +kernel
theorem dX9_carry_2 : decode cX9_carry 2 = .ok (.iconst 5, 1) := by decide +kernel
theorem dX9_carry_3 : decode cX9_carry 3 = .ok (.invokestatic 89, 3) := by decide +kernel
theorem dX9_carry_6 : decode cX9_carry 6 = .ok (.ifCond .eq 30, 3) := by decide +kernel
theorem dX9_carry_9 : decode cX9_carry 9 = .ok (.aload_n 0, 1) := by decide +kernel
theorem dX9_carry_10 : decode cX9_carry 10 = .ok (.iload_n 2, 1) := by decide +kernel
theorem dX9_carry_11 : decode cX9_carry 11 = .ok (.invokevirtual 137, 3) := by decide +kernel
theorem dX9_carry_14 : decode cX9_carry 14 = .ok (.ifCond .eq 22, 3) := by decide +kernel
theorem dX9_carry_17 : decode cX9_carry 17 = .ok (.iload_n 3, 1) := by decide +kernel
theorem dX9_carry_18 : decode cX9_carry 18 = .ok (.iconst (-1), 1) := by decide +kernel
theorem dX9_carry_19 : decode cX9_carry 19 = .ok (.iconst 2, 1) := by decide +kernel
theorem dX9_carry_20 : decode cX9_carry 20 = .ok (.invokestatic 89, 3) := by decide +kernel
theorem dX9_carry_23 : decode cX9_carry 23 = .ok (.ifCond .eq 13, 3) := by decide +kernel
theorem dX9_carry_26 : decode cX9_carry 26 = .ok (.aload_n 0, 1) := by decide +kernel
theorem dX9_carry_27 : decode cX9_carry 27 = .ok (.iload_n 1, 1) := by decide +kernel
theorem dX9_carry_28 : decode cX9_carry 28 = .ok (.iload_n 2, 1) := by decide +kernel
theorem dX9_carry_29 : decode cX9_carry 29 = .ok (.iload_n 3, 1) := by decide +kernel
theorem dX9_carry_30 : decode cX9_carry 30 = .ok (.invokevirtual 232, 3) := by decide +kernel
theorem dX9_carry_33 : decode cX9_carry 33 = .ok (.goto 5, 3) := by decide +kernel
theorem dX9_carry_36 : decode cX9_carry 36 = .ok (.bipush (-2), 2) := by decide +kernel
theorem dX9_carry_38 : decode cX9_carry 38 = .ok (.ireturn, 1) := by decide +kernel
def fX9_carry (a1 : Int32) (a2 : Int32) (a3 : Int32) (h : fd_H) : Option (Int32 × fd_H) :=
(fX9_in a1 (0 : Int32) (5 : Int32)).bind fun r2 =>
if r2 = true then (
(fX9_isNight a2 h).bind fun q5 =>
if q5.1 = true then (
(fX9_in a3 (-1 : Int32) (2 : Int32)).bind fun r8 =>
if r8 = true then (
(fX9_carryOf a1 a2 a3 q5.2).bind fun q11 =>
some (q11.1, q11.2))
else (
some ((-2 : Int32), q5.2)))
else (
some ((-2 : Int32), q5.2)))
else (
some ((-2 : Int32), h))
set_option maxRecDepth 100000 in
set_option maxHeartbeats 4000000 in
theorem sX9_carry {g : fd_G} {hm : fd_H} {a1 : Int32} {a2 : Int32} {a3 : Int32} {r : Int32 × fd_H} {h : fd_H} (hf : fX9_carry a1 a2 a3 h = some r) : fd_S g mX9_carry 9 [.ref (g.2.2.2 + 73), .int a1, .int a2, .int a3] fd_X0 (fd_mx hm h) (some (.int r.1)) fd_X0 (fd_mx hm r.2) 0 0 := by
  refine fd_S.of (by decide +kernel) (Nat.le_of_ble_eq_true rfl) ?_
  unfold fX9_carry at hf
  refine fr_loc (lv' := [(0, .ref (g.2.2.2 + 73)), (1, .int a1), (2, .int a2), (3, .int a3)]) [0, 1, 2, 3] rfl ?_
  refine fr_iload_n (pc := 0) dX9_carry_0 1 rfl rfl ?_
  refine fr_iconst (pc := 1) (v := (0 : Int32)) dX9_carry_1 (by decide) ?_
  refine fr_iconst (pc := 2) (v := (5 : Int32)) dX9_carry_2 (by decide) ?_
  obtain ⟨r2, hc1, hf⟩ := fd_bi hf
  refine fr_callSz (pc := 3) (av := [.int a1, .int (0 : Int32), .int (5 : Int32)]) dX9_carry_3 yy_X9_in kw_148 rfl rfl (Nat.le_of_ble_eq_true rfl) ⟨Nat.le_of_ble_eq_true rfl, Nat.le_of_ble_eq_true rfl, Nat.zero_le _, Nat.zero_le _⟩ (sX9_in hc1) ?_
  refine fr_bz (pc := 6) 36 dX9_carry_6 (by decide) (fun c3 => ?_) (fun c3 => ?_)
  · have hf := fd_f c3 hf
    refine fr_bipush (pc := 36) (v := (-2 : Int32)) dX9_carry_36 (by decide) ?_
    exact vm_iretW (x := (-2 : Int32)) (pc := 38) dX9_carry_38 rfl hf
  · have hf := fd_t c3 hf
    refine fr_aload_n (pc := 9) dX9_carry_9 0 rfl rfl ?_
    refine fr_iload_n (pc := 10) dX9_carry_10 2 rfl rfl ?_
    obtain ⟨q5, hc4, hf⟩ := fd_bi hf
    refine fr_callVz (pc := 11) (av := [.int a2]) dX9_carry_11 yy_X9_isNight kw_551 (by decide) rfl rfl rfl rfl (Nat.le_of_ble_eq_true rfl) ⟨Nat.le_of_ble_eq_true rfl, Nat.le_of_ble_eq_true rfl, Nat.zero_le _, Nat.zero_le _⟩ (sX9_isNight hc4) ?_
    refine fr_bz (pc := 14) 36 dX9_carry_14 (by decide) (fun c6 => ?_) (fun c6 => ?_)
    · have hf := fd_f c6 hf
      refine fr_bipush (pc := 36) (v := (-2 : Int32)) dX9_carry_36 (by decide) ?_
      exact vm_iretW (x := (-2 : Int32)) (pc := 38) dX9_carry_38 rfl hf
    · have hf := fd_t c6 hf
      refine fr_iload_n (pc := 17) dX9_carry_17 3 rfl rfl ?_
      refine fr_iconst (pc := 18) (v := (-1 : Int32)) dX9_carry_18 (by decide) ?_
      refine fr_iconst (pc := 19) (v := (2 : Int32)) dX9_carry_19 (by decide) ?_
      obtain ⟨r8, hc7, hf⟩ := fd_bi hf
      refine fr_callSz (pc := 20) (av := [.int a3, .int (-1 : Int32), .int (2 : Int32)]) dX9_carry_20 yy_X9_in kw_148 rfl rfl (Nat.le_of_ble_eq_true rfl) ⟨Nat.le_of_ble_eq_true rfl, Nat.le_of_ble_eq_true rfl, Nat.zero_le _, Nat.zero_le _⟩ (sX9_in hc7) ?_
      refine fr_bz (pc := 23) 36 dX9_carry_23 (by decide) (fun c9 => ?_) (fun c9 => ?_)
      · have hf := fd_f c9 hf
        refine fr_bipush (pc := 36) (v := (-2 : Int32)) dX9_carry_36 (by decide) ?_
        exact vm_iretW (x := (-2 : Int32)) (pc := 38) dX9_carry_38 rfl hf
      · have hf := fd_t c9 hf
        refine fr_aload_n (pc := 26) dX9_carry_26 0 rfl rfl ?_
        refine fr_iload_n (pc := 27) dX9_carry_27 1 rfl rfl ?_
        refine fr_iload_n (pc := 28) dX9_carry_28 2 rfl rfl ?_
        refine fr_iload_n (pc := 29) dX9_carry_29 3 rfl rfl ?_
        obtain ⟨q11, hc10, hf⟩ := fd_bi hf
        refine fr_callVi (pc := 30) (av := [.int a1, .int a2, .int a3]) dX9_carry_30 yy_X9_carryOf kw_666 (by decide) rfl rfl rfl rfl (Nat.le_of_ble_eq_true rfl) ⟨Nat.le_of_ble_eq_true rfl, Nat.le_of_ble_eq_true rfl, Nat.zero_le _, Nat.zero_le _⟩ (sX9_carryOf hc10) ?_
        refine fr_goto (pc := 33) 38 dX9_carry_33 (by decide) ?_
        exact vm_iretW (x := q11.1) (pc := 38) dX9_carry_38 rfl hf
theorem dX9_ask_0 : decode cX9_ask 0 = .ok (.aload_n 0, 1) := by decide +kernel
theorem dX9_ask_1 : decode cX9_ask 1 = .ok (.iload_n 1, 1) := by decide +kernel
theorem dX9_ask_2 : decode cX9_ask 2 = .ok (.invokevirtual 137, 3) := by decide +kernel
theorem dX9_ask_5 : decode cX9_ask 5 = .ok (.ifCond .eq 11, 3) := by decide +kernel
theorem dX9_ask_8 : decode cX9_ask 8 = .ok (.aload_n 0, 1) := by decide +kernel
theorem dX9_ask_9 : decode cX9_ask 9 = .ok (.iload_n 1, 1) := by decide +kernel
theorem dX9_ask_10 : decode cX9_ask 10 = .ok (.invokevirtual 260, 3) := by decide +kernel
theorem dX9_ask_13 : decode cX9_ask 13 = .ok (.goto 5, 3) := by decide +kernel
theorem dX9_ask_16 : decode cX9_ask 16 = .ok (.bipush (-2), 2) := by decide +kernel
theorem dX9_ask_18 : decode cX9_ask 18 = .ok (.ireturn, 1) := by decide +kernel
def fX9_ask (a1 : Int32) (h : fd_H) : Option (Int32 × fd_H) :=
(fX9_isNight a1 h).bind fun q2 =>
if q2.1 = true then (
(fX9_askOf a1 q2.2).bind fun q5 =>
some (q5.1, q5.2))
else (
some ((-2 : Int32), q2.2))
set_option maxRecDepth 100000 in
set_option maxHeartbeats 4000000 in
theorem sX9_ask {g : fd_G} {hm : fd_H} {a1 : Int32} {r : Int32 × fd_H} {h : fd_H} (hf : fX9_ask a1 h = some r) : fd_S g mX9_ask 9 [.ref (g.2.2.2 + 73), .int a1] fd_X0 (fd_mx hm h) (some (.int r.1)) fd_X0 (fd_mx hm r.2) 0 0 := by
  refine fd_S.of (by decide +kernel) (Nat.le_of_ble_eq_true rfl) ?_
  unfold fX9_ask at hf
  refine fr_loc (lv' := [(0, .ref (g.2.2.2 + 73)), (1, .int a1)]) [0, 1] rfl ?_
  refine fr_aload_n (pc := 0) dX9_ask_0 0 rfl rfl ?_
  refine fr_iload_n (pc := 1) dX9_ask_1 1 rfl rfl ?_
  obtain ⟨q2, hc1, hf⟩ := fd_bi hf
  refine fr_callVz (pc := 2) (av := [.int a1]) dX9_ask_2 yy_X9_isNight kw_551 (by decide) rfl rfl rfl rfl (Nat.le_of_ble_eq_true rfl) ⟨Nat.le_of_ble_eq_true rfl, Nat.le_of_ble_eq_true rfl, Nat.zero_le _, Nat.zero_le _⟩ (sX9_isNight hc1) ?_
  refine fr_bz (pc := 5) 16 dX9_ask_5 (by decide) (fun c3 => ?_) (fun c3 => ?_)
  · have hf := fd_f c3 hf
    refine fr_bipush (pc := 16) (v := (-2 : Int32)) dX9_ask_16 (by decide) ?_
    exact vm_iretW (x := (-2 : Int32)) (pc := 18) dX9_ask_18 rfl hf
  · have hf := fd_t c3 hf
    refine fr_aload_n (pc := 8) dX9_ask_8 0 rfl rfl ?_
    refine fr_iload_n (pc := 9) dX9_ask_9 1 rfl rfl ?_
    obtain ⟨q5, hc4, hf⟩ := fd_bi hf
    refine fr_callVi (pc := 10) (av := [.int a1]) dX9_ask_10 yy_X9_askOf kw_670 (by decide) rfl rfl rfl rfl (Nat.le_of_ble_eq_true rfl) ⟨Nat.le_of_ble_eq_true rfl, Nat.le_of_ble_eq_true rfl, Nat.zero_le _, Nat.zero_le _⟩ (sX9_askOf hc4) ?_
    refine fr_goto (pc := 13) 18 dX9_ask_13 (by decide) ?_
    exact vm_iretW (x := q5.1) (pc := 18) dX9_ask_18 rfl hf
theorem dX9_write_0 : decode cX9_write 0 = .ok (.iload_n 1, 1) := by decide +kernel
theorem dX9_write_1 : decode cX9_write 1 = .ok (.iconst 0, 1) := by decide +kernel
theorem dX9_write_2 : decode cX9_write 2 = .ok (.iconst 1, 1) := by decide +kernel
theorem dX9_write_3 : decode cX9_write 3 = .ok (.invokestatic 89, 3) := by decide +kernel
theorem dX9_write_6 : decode cX9_write 6 = .ok (.ifCond .eq 10, 3) := by decide +kernel
theorem dX9_write_9 : decode cX9_write 9 = .ok (.iload_n 2, 1) := by decide +kernel
theorem dX9_write_10 : decode cX9_write 10 = .ok (.invokestatic 238, 3) := by decide +kernel
theorem dX9_write_13 : decode cX9_write 13 = .ok (.ifCond .ne 6, 3) := by decide +kernel
theorem dX9_write_16 : decode cX9_write 16 = .ok (.bipush (-2), 2) := by decide +kernel
theorem dX9_write_18 : decode cX9_write 18 = .ok (.ireturn, 1) := by decide +kernel
theorem dX9_write_19 : decode cX9_write 19 = .ok (.aload_n 0, 1) := by decide +kernel
theorem dX9_write_20 : decode cX9_write 20 = .ok (.getfield 68, 3) := by decide +kernel
theorem dX9_write_23 : decode cX9_write 23 = .ok (.iload_n 2, 1) := by decide +kernel
theorem dX9_write_24 : decode cX9_write 24 = .ok (.baload, 1) := by decide +kernel
theorem dX9_write_25 : decode cX9_write 25 = .ok (.ifCond .ne 9, 3) := by decide +kernel
theorem dX9_write_28 : decode cX9_write 28 = .ok (.aload_n 0, 1) := by decide +kernel
theorem dX9_write_29 : decode cX9_write 29 = .ok (.iconst 1, 1) := by decide +kernel
theorem dX9_write_30 : decode cX9_write 30 = .ok (.invokevirtual 241, 3) := by decide +kernel
theorem dX9_write_33 : decode cX9_write 33 = .ok (.ireturn, 1) := by decide +kernel
theorem dX9_write_34 : decode cX9_write 34 = .ok (.iconst 0, 1) := by decide +kernel
theorem dX9_write_35 : decode cX9_write 35 = .ok (.istore_n 3, 1) := by decide +kernel
theorem dX9_write_36 : decode cX9_write 36 = .ok (.iload_n 3, 1) := by decide +kernel
theorem dX9_write_37 : decode cX9_write 37 = .ok (.aload_n 0, 1) := by decide +kernel
theorem dX9_write_38 : decode cX9_write 38 = .ok (.getfield 74, 3) := by decide +kernel
theorem dX9_write_41 : decode cX9_write 41 = .ok (.iload_n 2, 1) := by decide +kernel
theorem dX9_write_42 : decode cX9_write 42 = .ok (.iaload, 1) := by decide +kernel
theorem dX9_write_43 : decode cX9_write 43 = .ok (.if_icmp .ge 38, 3) := by decide +kernel
theorem dX9_write_46 : decode cX9_write 46 = .ok (.iload_n 3, 1) := by decide +kernel
theorem dX9_write_47 : decode cX9_write 47 = .ok (.bipush 40, 2) := by decide +kernel
theorem dX9_write_49 : decode cX9_write 49 = .ok (.if_icmp .ge 32, 3) := by decide +kernel
theorem dX9_write_52 : decode cX9_write 52 = .ok (.aload_n 0, 1) := by decide +kernel
theorem dX9_write_53 : decode cX9_write 53 = .ok (.iload_n 2, 1) := by decide +kernel
theorem dX9_write_54 : decode cX9_write 54 = .ok (.iload_n 3, 1) := by decide +kernel
theorem dX9_write_55 : decode cX9_write 55 = .ok (.iload_n 1, 1) := by decide +kernel
theorem dX9_write_56 : decode cX9_write 56 = .ok (.ifCond .ne 11, 3) := by decide +kernel
theorem dX9_write_59 : decode cX9_write 59 = .ok (.aload_n 0, 1) := by decide +kernel
theorem dX9_write_60 : decode cX9_write 60 = .ok (.iload_n 3, 1) := by decide +kernel
theorem dX9_write_61 : decode cX9_write 61 = .ok (.invokevirtual 292, 3) := by decide +kernel
theorem dX9_write_64 : decode cX9_write 64 = .ok (.goto 8, 3) := by decide +kernel
theorem dX9_write_67 : decode cX9_write 67 = .ok (.aload_n 0, 1) := by decide +kernel
theorem dX9_write_68 : decode cX9_write 68 = .ok (.iload_n 3, 1) := by decide +kernel
theorem dX9_write_69 : decode cX9_write 69 = .ok (.invokevirtual 213, 3) := by decide +kernel
theorem dX9_write_72 : decode cX9_write 72 = .ok (.invokevirtual 287, 3) := by decide +kernel
theorem dX9_write_75 : decode cX9_write 75 = .ok (.iinc 3 1, 3) := by decide +kernel
theorem dX9_write_78 : decode cX9_write 78 = .ok (.goto (-42), 3) := by decide +kernel
theorem dX9_write_81 : decode cX9_write 81 = .ok (.iload_n 3, 1) := by decide +kernel
theorem dX9_write_82 : decode cX9_write 82 = .ok (.ireturn, 1) := by decide +kernel
def fX9_write_L72 (a1 : Int32) (a2 : Int32) (K36 : Int32 → fd_H → Option (Int32 × fd_H)) (v3 : Int32) (vs0 : Int32) (vs1 : Int32) (h : fd_H) : Option (Int32 × fd_H) :=
(fX9_keepsItem a2 vs1 vs0 h).bind fun h2 =>
K36 (v3 + (1 : Int32)) h2
set_option maxRecDepth 100000 in
set_option maxHeartbeats 4000000 in
theorem sX9_write_L72 {g : fd_G} {hm : fd_H} {a1 : Int32} {a2 : Int32} {r : Int32 × fd_H} {K36 : Int32 → fd_H → Option (Int32 × fd_H)} (hK36 : ∀ (v3 : Int32) (h : fd_H), K36 v3 h = some r → fd_A g mX9_write fd_E (fd_rm 9 0 0) (fd_Q g (some (.int r.1)) fd_X0 (fd_mx hm r.2) 0 0) 36 [(0, .ref (g.2.2.2 + 73)), (1, .int a1), (2, .int a2), (3, .int v3)] [] fd_X0 (fd_mx hm h) 0 0) : ∀ (v3 : Int32) (vs0 : Int32) (vs1 : Int32) (h : fd_H), fX9_write_L72 a1 a2 K36 v3 vs0 vs1 h = some r → fd_A g mX9_write fd_E (fd_rm 9 0 0) (fd_Q g (some (.int r.1)) fd_X0 (fd_mx hm r.2) 0 0) 72 [(0, .ref (g.2.2.2 + 73)), (1, .int a1), (2, .int a2), (3, .int v3)] [.int vs0, .int vs1, .int a2, .ref (g.2.2.2 + 73)] fd_X0 (fd_mx hm h) 0 0 := by
  intro v3 vs0 vs1 h hf
  unfold fX9_write_L72 at hf
  obtain ⟨h2, hc1, hf⟩ := fd_bi hf
  refine fr_callVv (pc := 72) (av := [.int a2, .int vs1, .int vs0]) dX9_write_72 yy_X9_keepsItem kw_277 (by decide) rfl rfl rfl rfl (Nat.le_of_ble_eq_true rfl) ⟨Nat.le_of_ble_eq_true rfl, Nat.le_of_ble_eq_true rfl, Nat.zero_le _, Nat.zero_le _⟩ (sX9_keepsItem hc1) ?_
  refine fr_iinc (pc := 75) (v := (v3 + (1 : Int32))) (lv' := [(3, .int (v3 + (1 : Int32))), (0, .ref (g.2.2.2 + 73)), (1, .int a1), (2, .int a2)]) dX9_write_75 3 rfl rfl (by decide) rfl ?_
  refine fr_goto (pc := 78) 36 dX9_write_78 (by decide) ?_
  refine fr_loc (lv' := [(0, .ref (g.2.2.2 + 73)), (1, .int a1), (2, .int a2), (3, .int (v3 + (1 : Int32)))]) [1, 2, 3, 0] rfl ?_
  exact hK36 _ _ hf
def fX9_write_L36 (a1 : Int32) (a2 : Int32) : Nat → Int32 → fd_H → Option (Int32 × fd_H)
  | 0 => fun _ _ => none
  | n + 1 => fun v3 h =>
fd_g (fd_in a2 4) (
if (h.1 95 a2.toNatClampNeg) ≤ v3 then (
some (v3, h))
else (
if (40 : Int32) ≤ v3 then (
some (v3, h))
else (
if a1 = 0 then (
(fX9_owedBy v3 h).bind fun q8 =>
fX9_write_L72 a1 a2 (fX9_write_L36 a1 a2 n) v3 q8.1 v3 q8.2)
else (
(fX9_hangsOf v3 h).bind fun q6 =>
fX9_write_L72 a1 a2 (fX9_write_L36 a1 a2 n) v3 q6.1 v3 q6.2))))
set_option maxRecDepth 100000 in
set_option maxHeartbeats 4000000 in
theorem sX9_write_L36 {g : fd_G} {hm : fd_H} {a1 : Int32} {a2 : Int32} {r : Int32 × fd_H} : ∀ (n : Nat) (v3 : Int32) (h : fd_H), fX9_write_L36 a1 a2 n v3 h = some r → fd_A g mX9_write fd_E (fd_rm 9 0 0) (fd_Q g (some (.int r.1)) fd_X0 (fd_mx hm r.2) 0 0) 36 [(0, .ref (g.2.2.2 + 73)), (1, .int a1), (2, .int a2), (3, .int v3)] [] fd_X0 (fd_mx hm h) 0 0 := by
  intro n
  induction n with
  | zero =>
    intro _ _ hf
    cases hf
  | succ n ih =>
    intro v3 h hf
    rw [fX9_write_L36] at hf
    refine fr_iload_n (pc := 36) dX9_write_36 3 rfl rfl ?_
    refine fr_aload_n (pc := 37) dX9_write_37 0 rfl rfl ?_
    refine fr_getR (pc := 38) dX9_write_38 fl_X9_74 (by decide) rfl rfl ?_
    refine fr_iload_n (pc := 41) dX9_write_41 2 rfl rfl ?_
    obtain ⟨g1, hf⟩ := fd_g_e hf
    refine vm_iald (pc := 42) dX9_write_42 (by decide) (by decide) rfl g1 ?_
    refine fr_icmp_ge (pc := 43) 81 dX9_write_43 (by decide) (fun c2 => ?_) (fun c2 => ?_)
    · have hf := fd_t c2 hf
      refine fr_iload_n (pc := 81) dX9_write_81 3 rfl rfl ?_
      exact vm_iretW (x := v3) (pc := 82) dX9_write_82 rfl hf
    · have hf := fd_f c2 hf
      refine fr_iload_n (pc := 46) dX9_write_46 3 rfl rfl ?_
      refine fr_bipush (pc := 47) (v := (40 : Int32)) dX9_write_47 (by decide) ?_
      refine fr_icmp_ge (pc := 49) 81 dX9_write_49 (by decide) (fun c3 => ?_) (fun c3 => ?_)
      · have hf := fd_t c3 hf
        refine fr_iload_n (pc := 81) dX9_write_81 3 rfl rfl ?_
        exact vm_iretW (x := v3) (pc := 82) dX9_write_82 rfl hf
      · have hf := fd_f c3 hf
        refine fr_aload_n (pc := 52) dX9_write_52 0 rfl rfl ?_
        refine fr_iload_n (pc := 53) dX9_write_53 2 rfl rfl ?_
        refine fr_iload_n (pc := 54) dX9_write_54 3 rfl rfl ?_
        refine fr_iload_n (pc := 55) dX9_write_55 1 rfl rfl ?_
        refine fr_if_ne (pc := 56) 67 dX9_write_56 (by decide) (fun c4 => ?_) (fun c4 => ?_)
        · have hf := fd_f c4 hf
          refine fr_aload_n (pc := 67) dX9_write_67 0 rfl rfl ?_
          refine fr_iload_n (pc := 68) dX9_write_68 3 rfl rfl ?_
          obtain ⟨q6, hc5, hf⟩ := fd_bi hf
          refine fr_callVi (pc := 69) (av := [.int v3]) dX9_write_69 yy_X9_hangsOf kw_654 (by decide) rfl rfl rfl rfl (Nat.le_of_ble_eq_true rfl) ⟨Nat.le_of_ble_eq_true rfl, Nat.le_of_ble_eq_true rfl, Nat.zero_le _, Nat.zero_le _⟩ (sX9_hangsOf hc5) ?_
          refine fr_loc (lv' := [(0, .ref (g.2.2.2 + 73)), (1, .int a1), (2, .int a2), (3, .int v3)]) [0, 1, 2, 3] rfl ?_
          exact sX9_write_L72 ih  _ _ _ _ hf
        · have hf := fd_t c4 hf
          refine fr_aload_n (pc := 59) dX9_write_59 0 rfl rfl ?_
          refine fr_iload_n (pc := 60) dX9_write_60 3 rfl rfl ?_
          obtain ⟨q8, hc7, hf⟩ := fd_bi hf
          refine fr_callVi (pc := 61) (av := [.int v3]) dX9_write_61 yy_X9_owedBy kw_674 (by decide) rfl rfl rfl rfl (Nat.le_of_ble_eq_true rfl) ⟨Nat.le_of_ble_eq_true rfl, Nat.le_of_ble_eq_true rfl, Nat.zero_le _, Nat.zero_le _⟩ (sX9_owedBy hc7) ?_
          refine fr_goto (pc := 64) 72 dX9_write_64 (by decide) ?_
          refine fr_loc (lv' := [(0, .ref (g.2.2.2 + 73)), (1, .int a1), (2, .int a2), (3, .int v3)]) [0, 1, 2, 3] rfl ?_
          exact sX9_write_L72 ih  _ _ _ _ hf
def fX9_write (a1 : Int32) (a2 : Int32) (h : fd_H) : Option (Int32 × fd_H) :=
(fX9_in a1 (0 : Int32) (1 : Int32)).bind fun r2 =>
if r2 = true then (
(fX9_isSheet a2).bind fun r5 =>
if r5 = true then (
fd_g (fd_in a2 4) (
if (h.1 93 a2.toNatClampNeg) = 0 then (
(fX9_meets (1 : Int32) h).bind fun q10 =>
some (q10.1, q10.2))
else (
fX9_write_L36 a1 a2 fd_fu (0 : Int32) h)))
else (
some ((-2 : Int32), h)))
else (
some ((-2 : Int32), h))
set_option maxRecDepth 100000 in
set_option maxHeartbeats 4000000 in
theorem sX9_write {g : fd_G} {hm : fd_H} {a1 : Int32} {a2 : Int32} {r : Int32 × fd_H} {h : fd_H} (hf : fX9_write a1 a2 h = some r) : fd_S g mX9_write 9 [.ref (g.2.2.2 + 73), .int a1, .int a2] fd_X0 (fd_mx hm h) (some (.int r.1)) fd_X0 (fd_mx hm r.2) 0 0 := by
  refine fd_S.of (by decide +kernel) (Nat.le_of_ble_eq_true rfl) ?_
  unfold fX9_write at hf
  refine fr_loc (lv' := [(0, .ref (g.2.2.2 + 73)), (1, .int a1), (2, .int a2)]) [0, 1, 2] rfl ?_
  refine fr_iload_n (pc := 0) dX9_write_0 1 rfl rfl ?_
  refine fr_iconst (pc := 1) (v := (0 : Int32)) dX9_write_1 (by decide) ?_
  refine fr_iconst (pc := 2) (v := (1 : Int32)) dX9_write_2 (by decide) ?_
  obtain ⟨r2, hc1, hf⟩ := fd_bi hf
  refine fr_callSz (pc := 3) (av := [.int a1, .int (0 : Int32), .int (1 : Int32)]) dX9_write_3 yy_X9_in kw_148 rfl rfl (Nat.le_of_ble_eq_true rfl) ⟨Nat.le_of_ble_eq_true rfl, Nat.le_of_ble_eq_true rfl, Nat.zero_le _, Nat.zero_le _⟩ (sX9_in hc1) ?_
  refine fr_bz (pc := 6) 16 dX9_write_6 (by decide) (fun c3 => ?_) (fun c3 => ?_)
  · have hf := fd_f c3 hf
    refine fr_bipush (pc := 16) (v := (-2 : Int32)) dX9_write_16 (by decide) ?_
    exact vm_iretW (x := (-2 : Int32)) (pc := 18) dX9_write_18 rfl hf
  · have hf := fd_t c3 hf
    refine fr_iload_n (pc := 9) dX9_write_9 2 rfl rfl ?_
    obtain ⟨r5, hc4, hf⟩ := fd_bi hf
    refine fr_callSz (pc := 10) (av := [.int a2]) dX9_write_10 yy_X9_isSheet kw_265 rfl rfl (Nat.le_of_ble_eq_true rfl) ⟨Nat.le_of_ble_eq_true rfl, Nat.le_of_ble_eq_true rfl, Nat.zero_le _, Nat.zero_le _⟩ (sX9_isSheet hc4) ?_
    refine fr_bn (pc := 13) 19 dX9_write_13 (by decide) (fun c6 => ?_) (fun c6 => ?_)
    · have hf := fd_t c6 hf
      refine fr_aload_n (pc := 19) dX9_write_19 0 rfl rfl ?_
      refine fr_getR (pc := 20) dX9_write_20 fl_X9_68 (by decide) rfl rfl ?_
      refine fr_iload_n (pc := 23) dX9_write_23 2 rfl rfl ?_
      obtain ⟨g7, hf⟩ := fd_g_e hf
      refine vm_zald (pc := 24) dX9_write_24 (by decide) (by decide) rfl g7 ?_
      refine fr_if_ne (pc := 25) 34 dX9_write_25 (by decide) (fun c8 => ?_) (fun c8 => ?_)
      · have hf := fd_f c8 hf
        refine fr_iconst (pc := 34) (v := (0 : Int32)) dX9_write_34 (by decide) ?_
        refine fr_istore_n (pc := 35) (lv' := [(3, .int (0 : Int32)), (0, .ref (g.2.2.2 + 73)), (1, .int a1), (2, .int a2)]) dX9_write_35 rfl (by decide) rfl ?_
        refine fr_loc (lv' := [(0, .ref (g.2.2.2 + 73)), (1, .int a1), (2, .int a2), (3, .int (0 : Int32))]) [1, 2, 3, 0] rfl ?_
        exact sX9_write_L36 _  _ _ hf
      · have hf := fd_t c8 hf
        refine fr_aload_n (pc := 28) dX9_write_28 0 rfl rfl ?_
        refine fr_iconst (pc := 29) (v := (1 : Int32)) dX9_write_29 (by decide) ?_
        obtain ⟨q10, hc9, hf⟩ := fd_bi hf
        refine fr_callVi (pc := 30) (av := [.int (1 : Int32)]) dX9_write_30 yy_X9_meets kw_269 (by decide) rfl rfl rfl rfl (Nat.le_of_ble_eq_true rfl) ⟨Nat.le_of_ble_eq_true rfl, Nat.le_of_ble_eq_true rfl, Nat.zero_le _, Nat.zero_le _⟩ (sX9_meets hc9) ?_
        exact vm_iretW (x := q10.1) (pc := 33) dX9_write_33 rfl hf
    · have hf := fd_f c6 hf
      refine fr_bipush (pc := 16) (v := (-2 : Int32)) dX9_write_16 (by decide) ?_
      exact vm_iretW (x := (-2 : Int32)) (pc := 18) dX9_write_18 rfl hf
theorem dX9_placeDigest_0 : decode cX9_placeDigest 0 = .ok (.ldc2_w 298, 3) := by decide +kernel
theorem dX9_placeDigest_3 : decode cX9_placeDigest 3 = .ok (.lload_n 1, 1) := by decide +kernel
theorem dX9_placeDigest_4 : decode cX9_placeDigest 4 = .ok (.lmul, 1) := by decide +kernel
theorem dX9_placeDigest_5 : decode cX9_placeDigest 5 = .ok (.aload_n 0, 1) := by decide +kernel
theorem dX9_placeDigest_6 : decode cX9_placeDigest 6 = .ok (.getfield 16, 3) := by decide +kernel
theorem dX9_placeDigest_9 : decode cX9_placeDigest 9 = .ok (.iload_n 3, 1) := by decide +kernel
theorem dX9_placeDigest_10 : decode cX9_placeDigest 10 = .ok (.iaload, 1) := by decide +kernel
theorem dX9_placeDigest_11 : decode cX9_placeDigest 11 = .ok (.i2l, 1) := by decide +kernel
theorem dX9_placeDigest_12 : decode cX9_placeDigest 12 = .ok (.ladd, 1) := by decide +kernel
theorem dX9_placeDigest_13 : decode cX9_placeDigest 13 = .ok (.lstore 4, 2) := by decide +kernel
theorem dX9_placeDigest_15 : decode cX9_placeDigest 15 = .ok (.ldc2_w 298, 3) := by decide +kernel
theorem dX9_placeDigest_18 : decode cX9_placeDigest 18 = .ok (.lload 4, 2) := by decide +kernel
theorem dX9_placeDigest_20 : decode cX9_placeDigest 20 = .ok (.lmul, 1) := by decide +kernel
theorem dX9_placeDigest_21 : decode cX9_placeDigest 21 = .ok (.aload_n 0, 1) := by decide +kernel
theorem dX9_placeDigest_22 : decode cX9_placeDigest 22 = .ok (.getfield 19, 3) := by decide +kernel
theorem dX9_placeDigest_25 : decode cX9_placeDigest 25 = .ok (.iload_n 3, 1) := by decide +kernel
theorem dX9_placeDigest_26 : decode cX9_placeDigest 26 = .ok (.iaload, 1) := by decide +kernel
theorem dX9_placeDigest_27 : decode cX9_placeDigest 27 = .ok (.i2l, 1) := by decide +kernel
theorem dX9_placeDigest_28 : decode cX9_placeDigest 28 = .ok (.ladd, 1) := by decide +kernel
theorem dX9_placeDigest_29 : decode cX9_placeDigest 29 = .ok (.lstore 4, 2) := by decide +kernel
theorem dX9_placeDigest_31 : decode cX9_placeDigest 31 = .ok (.ldc2_w 298, 3) := by decide +kernel
theorem dX9_placeDigest_34 : decode cX9_placeDigest 34 = .ok (.lload 4, 2) := by decide +kernel
theorem dX9_placeDigest_36 : decode cX9_placeDigest 36 = .ok (.lmul, 1) := by decide +kernel
theorem dX9_placeDigest_37 : decode cX9_placeDigest 37 = .ok (.aload_n 0, 1) := by decide +kernel
theorem dX9_placeDigest_38 : decode cX9_placeDigest 38 = .ok (.iconst 3, 1) := by decide +kernel
theorem dX9_placeDigest_39 : decode cX9_placeDigest 39 = .ok (.iload_n 3, 1) := by decide +kernel
theorem dX9_placeDigest_40 : decode cX9_placeDigest 40 = .ok (.invokevirtual 300, 3) := by decide +kernel
theorem dX9_placeDigest_43 : decode cX9_placeDigest 43 = .ok (.i2l, 1) := by decide +kernel
theorem dX9_placeDigest_44 : decode cX9_placeDigest 44 = .ok (.ladd, 1) := by decide +kernel
theorem dX9_placeDigest_45 : decode cX9_placeDigest 45 = .ok (.lstore 4, 2) := by decide +kernel
theorem dX9_placeDigest_47 : decode cX9_placeDigest 47 = .ok (.ldc2_w 298, 3) := by decide +kernel
theorem dX9_placeDigest_50 : decode cX9_placeDigest 50 = .ok (.lload 4, 2) := by decide +kernel
theorem dX9_placeDigest_52 : decode cX9_placeDigest 52 = .ok (.lmul, 1) := by decide +kernel
theorem dX9_placeDigest_53 : decode cX9_placeDigest 53 = .ok (.aload_n 0, 1) := by decide +kernel
theorem dX9_placeDigest_54 : decode cX9_placeDigest 54 = .ok (.iconst 3, 1) := by decide +kernel
theorem dX9_placeDigest_55 : decode cX9_placeDigest 55 = .ok (.iload_n 3, 1) := by decide +kernel
theorem dX9_placeDigest_56 : decode cX9_placeDigest 56 = .ok (.invokevirtual 303, 3) := by decide +kernel
theorem dX9_placeDigest_59 : decode cX9_placeDigest 59 = .ok (.i2l, 1) := by decide +kernel
theorem dX9_placeDigest_60 : decode cX9_placeDigest 60 = .ok (.ladd, 1) := by decide +kernel
theorem dX9_placeDigest_61 : decode cX9_placeDigest 61 = .ok (.lstore 4, 2) := by decide +kernel
theorem dX9_placeDigest_63 : decode cX9_placeDigest 63 = .ok (.ldc2_w 298, 3) := by decide +kernel
theorem dX9_placeDigest_66 : decode cX9_placeDigest 66 = .ok (.lload 4, 2) := by decide +kernel
theorem dX9_placeDigest_68 : decode cX9_placeDigest 68 = .ok (.lmul, 1) := by decide +kernel
theorem dX9_placeDigest_69 : decode cX9_placeDigest 69 = .ok (.aload_n 0, 1) := by decide +kernel
theorem dX9_placeDigest_70 : decode cX9_placeDigest 70 = .ok (.iload_n 3, 1) := by decide +kernel
theorem dX9_placeDigest_71 : decode cX9_placeDigest 71 = .ok (.invokevirtual 183, 3) := by decide +kernel
theorem dX9_placeDigest_74 : decode cX9_placeDigest 74 = .ok (.i2l, 1) := by decide +kernel
theorem dX9_placeDigest_75 : decode cX9_placeDigest 75 = .ok (.ladd, 1) := by decide +kernel
theorem dX9_placeDigest_76 : decode cX9_placeDigest 76 = .ok (.lstore 4, 2) := by decide +kernel
theorem dX9_placeDigest_78 : decode cX9_placeDigest 78 = .ok (.ldc2_w 298, 3) := by decide +kernel
theorem dX9_placeDigest_81 : decode cX9_placeDigest 81 = .ok (.lload 4, 2) := by decide +kernel
theorem dX9_placeDigest_83 : decode cX9_placeDigest 83 = .ok (.lmul, 1) := by decide +kernel
theorem dX9_placeDigest_84 : decode cX9_placeDigest 84 = .ok (.aload_n 0, 1) := by decide +kernel
theorem dX9_placeDigest_85 : decode cX9_placeDigest 85 = .ok (.iload_n 3, 1) := by decide +kernel
theorem dX9_placeDigest_86 : decode cX9_placeDigest 86 = .ok (.bipush 9, 2) := by decide +kernel
theorem dX9_placeDigest_88 : decode cX9_placeDigest 88 = .ok (.iconst (-1), 1) := by decide +kernel
theorem dX9_placeDigest_89 : decode cX9_placeDigest 89 = .ok (.invokevirtual 222, 3) := by decide +kernel
theorem dX9_placeDigest_92 : decode cX9_placeDigest 92 = .ok (.i2l, 1) := by decide +kernel
theorem dX9_placeDigest_93 : decode cX9_placeDigest 93 = .ok (.ladd, 1) := by decide +kernel
theorem dX9_placeDigest_94 : decode cX9_placeDigest 94 = .ok (.lstore 4, 2) := by decide +kernel
theorem dX9_placeDigest_96 : decode cX9_placeDigest 96 = .ok (.ldc2_w 298, 3) := by decide +kernel
theorem dX9_placeDigest_99 : decode cX9_placeDigest 99 = .ok (.lload 4, 2) := by decide +kernel
theorem dX9_placeDigest_101 : decode cX9_placeDigest 101 = .ok (.lmul, 1) := by decide +kernel
theorem dX9_placeDigest_102 : decode cX9_placeDigest 102 = .ok (.aload_n 0, 1) := by decide +kernel
theorem dX9_placeDigest_103 : decode cX9_placeDigest 103 = .ok (.iload_n 3, 1) := by decide +kernel
theorem dX9_placeDigest_104 : decode cX9_placeDigest 104 = .ok (.bipush 9, 2) := by decide +kernel
theorem dX9_placeDigest_106 : decode cX9_placeDigest 106 = .ok (.iconst 0, 1) := by decide +kernel
theorem dX9_placeDigest_107 : decode cX9_placeDigest 107 = .ok (.invokevirtual 222, 3) := by decide +kernel
theorem dX9_placeDigest_110 : decode cX9_placeDigest 110 = .ok (.i2l, 1) := by decide +kernel
theorem dX9_placeDigest_111 : decode cX9_placeDigest 111 = .ok (.ladd, 1) := by decide +kernel
theorem dX9_placeDigest_112 : decode cX9_placeDigest 112 = .ok (.lstore 4, 2) := by decide +kernel
theorem dX9_placeDigest_114 : decode cX9_placeDigest 114 = .ok (.ldc2_w 298, 3) := by decide +kernel
theorem dX9_placeDigest_117 : decode cX9_placeDigest 117 = .ok (.lload 4, 2) := by decide +kernel
theorem dX9_placeDigest_119 : decode cX9_placeDigest 119 = .ok (.lmul, 1) := by decide +kernel
theorem dX9_placeDigest_120 : decode cX9_placeDigest 120 = .ok (.aload_n 0, 1) := by decide +kernel
theorem dX9_placeDigest_121 : decode cX9_placeDigest 121 = .ok (.iconst 5, 1) := by decide +kernel
theorem dX9_placeDigest_122 : decode cX9_placeDigest 122 = .ok (.iload_n 3, 1) := by decide +kernel
theorem dX9_placeDigest_123 : decode cX9_placeDigest 123 = .ok (.bipush 9, 2) := by decide +kernel
theorem dX9_placeDigest_125 : decode cX9_placeDigest 125 = .ok (.iconst 0, 1) := by decide +kernel
theorem dX9_placeDigest_126 : decode cX9_placeDigest 126 = .ok (.invokevirtual 269, 3) := by decide +kernel
theorem dX9_placeDigest_129 : decode cX9_placeDigest 129 = .ok (.ladd, 1) := by decide +kernel
theorem dX9_placeDigest_130 : decode cX9_placeDigest 130 = .ok (.lstore 4, 2) := by decide +kernel
theorem dX9_placeDigest_132 : decode cX9_placeDigest 132 = .ok (.ldc2_w 298, 3) := by decide +kernel
theorem dX9_placeDigest_135 : decode cX9_placeDigest 135 = .ok (.lload 4, 2) := by decide +kernel
theorem dX9_placeDigest_137 : decode cX9_placeDigest 137 = .ok (.lmul, 1) := by decide +kernel
theorem dX9_placeDigest_138 : decode cX9_placeDigest 138 = .ok (.aload_n 0, 1) := by decide +kernel
theorem dX9_placeDigest_139 : decode cX9_placeDigest 139 = .ok (.iconst 5, 1) := by decide +kernel
theorem dX9_placeDigest_140 : decode cX9_placeDigest 140 = .ok (.iload_n 3, 1) := by decide +kernel
theorem dX9_placeDigest_141 : decode cX9_placeDigest 141 = .ok (.bipush 9, 2) := by decide +kernel
theorem dX9_placeDigest_143 : decode cX9_placeDigest 143 = .ok (.iconst 1, 1) := by decide +kernel
theorem dX9_placeDigest_144 : decode cX9_placeDigest 144 = .ok (.invokevirtual 269, 3) := by decide +kernel
theorem dX9_placeDigest_147 : decode cX9_placeDigest 147 = .ok (.ladd, 1) := by decide +kernel
theorem dX9_placeDigest_148 : decode cX9_placeDigest 148 = .ok (.lstore 4, 2) := by decide +kernel
theorem dX9_placeDigest_150 : decode cX9_placeDigest 150 = .ok (.ldc2_w 298, 3) := by decide +kernel
theorem dX9_placeDigest_153 : decode cX9_placeDigest 153 = .ok (.lload 4, 2) := by decide +kernel
theorem dX9_placeDigest_155 : decode cX9_placeDigest 155 = .ok (.lmul, 1) := by decide +kernel
theorem dX9_placeDigest_156 : decode cX9_placeDigest 156 = .ok (.aload_n 0, 1) := by decide +kernel
theorem dX9_placeDigest_157 : decode cX9_placeDigest 157 = .ok (.bipush 7, 2) := by decide +kernel
theorem dX9_placeDigest_159 : decode cX9_placeDigest 159 = .ok (.iload_n 3, 1) := by decide +kernel
theorem dX9_placeDigest_160 : decode cX9_placeDigest 160 = .ok (.invokevirtual 278, 3) := by decide +kernel
theorem dX9_placeDigest_163 : decode cX9_placeDigest 163 = .ok (.i2l, 1) := by decide +kernel
theorem dX9_placeDigest_164 : decode cX9_placeDigest 164 = .ok (.ladd, 1) := by decide +kernel
theorem dX9_placeDigest_165 : decode cX9_placeDigest 165 = .ok (.lreturn, 1) := by decide +kernel
def fX9_placeDigest (a1 : Int64) (a3 : Int32) (h : fd_H) : Option (Int64 × fd_H) :=
fd_g (fd_in a3 9) (
fd_lt ((((31 : Int64) * a1) + (((h.1 76 a3.toNatClampNeg)).toInt64))) fun x2 =>
fd_g (fd_in a3 9) (
fd_lt ((((31 : Int64) * x2) + (((h.1 77 a3.toNatClampNeg)).toInt64))) fun x4 =>
(fX9_warmth (3 : Int32) a3 h).bind fun q6 =>
fd_lt ((((31 : Int64) * x4) + ((q6.1).toInt64))) fun x7 =>
(fX9_freezes (3 : Int32) a3 q6.2).bind fun q9 =>
fd_lt ((((31 : Int64) * x7) + ((q9.1).toInt64))) fun x10 =>
(fX9_firstOf a3 q9.2).bind fun q12 =>
fd_lt ((((31 : Int64) * x10) + ((q12.1).toInt64))) fun x13 =>
(fX9_keepOf a3 (9 : Int32) (-1 : Int32) q12.2).bind fun q15 =>
fd_lt ((((31 : Int64) * x13) + ((q15.1).toInt64))) fun x16 =>
(fX9_keepOf a3 (9 : Int32) (0 : Int32) q15.2).bind fun q18 =>
fd_lt ((((31 : Int64) * x16) + ((q18.1).toInt64))) fun x19 =>
(fX9_chanceOf (5 : Int32) a3 (9 : Int32) (0 : Int32) q18.2).bind fun q21 =>
fd_lt ((((31 : Int64) * x19) + q21.1)) fun x22 =>
(fX9_chanceOf (5 : Int32) a3 (9 : Int32) (1 : Int32) q21.2).bind fun q24 =>
fd_lt ((((31 : Int64) * x22) + q24.1)) fun x25 =>
(fX9_yearOf (7 : Int32) a3 q24.2).bind fun q27 =>
some ((((31 : Int64) * x25) + ((q27.1).toInt64)), q27.2)))
set_option maxRecDepth 100000 in
set_option maxHeartbeats 4000000 in
theorem sX9_placeDigest {g : fd_G} {hm : fd_H} {a1 : Int64} {a3 : Int32} {r : Int64 × fd_H} {h : fd_H} (hf : fX9_placeDigest a1 a3 h = some r) : fd_S g mX9_placeDigest 9 [.ref (g.2.2.2 + 73), .long a1, .int a3] fd_X0 (fd_mx hm h) (some (.long r.1)) fd_X0 (fd_mx hm r.2) 0 0 := by
  refine fd_S.of (by decide +kernel) (Nat.le_of_ble_eq_true rfl) ?_
  unfold fX9_placeDigest at hf
  refine fr_loc (lv' := [(0, .ref (g.2.2.2 + 73)), (1, .long a1), (3, .int a3)]) [0, 1, 2] rfl ?_
  refine fr_ldc2 (pc := 0) (v := (31 : Int64)) dX9_placeDigest_0 kw_675 ?_
  refine fr_lload_n (pc := 3) dX9_placeDigest_3 1 rfl rfl ?_
  refine fr_lmul (pc := 4) dX9_placeDigest_4 ?_
  refine fr_aload_n (pc := 5) dX9_placeDigest_5 0 rfl rfl ?_
  refine fr_getR (pc := 6) dX9_placeDigest_6 fl_X9_16 (by decide) rfl rfl ?_
  refine fr_iload_n (pc := 9) dX9_placeDigest_9 2 rfl rfl ?_
  obtain ⟨g1, hf⟩ := fd_g_e hf
  refine vm_iald (pc := 10) dX9_placeDigest_10 (by decide) (by decide) rfl g1 ?_
  refine fr_i2l (pc := 11) dX9_placeDigest_11 ?_
  refine fr_ladd (pc := 12) dX9_placeDigest_12 ?_
  obtain ⟨x2, ex2, hf⟩ := fd_lt_e hf
  refine fr_nml ex2 ?_
  refine fr_lstore (pc := 13) (lv' := [(4, .long x2), (0, .ref (g.2.2.2 + 73)), (1, .long a1), (3, .int a3)]) dX9_placeDigest_13 (by decide) rfl ?_
  refine fr_ldc2 (pc := 15) (v := (31 : Int64)) dX9_placeDigest_15 kw_675 ?_
  refine fr_lload (pc := 18) dX9_placeDigest_18 0 rfl ?_
  refine fr_lmul (pc := 20) dX9_placeDigest_20 ?_
  refine fr_aload_n (pc := 21) dX9_placeDigest_21 1 rfl rfl ?_
  refine fr_getR (pc := 22) dX9_placeDigest_22 fl_X9_19 (by decide) rfl rfl ?_
  refine fr_iload_n (pc := 25) dX9_placeDigest_25 3 rfl rfl ?_
  obtain ⟨g3, hf⟩ := fd_g_e hf
  refine vm_iald (pc := 26) dX9_placeDigest_26 (by decide) (by decide) rfl g3 ?_
  refine fr_i2l (pc := 27) dX9_placeDigest_27 ?_
  refine fr_ladd (pc := 28) dX9_placeDigest_28 ?_
  obtain ⟨x4, ex4, hf⟩ := fd_lt_e hf
  refine fr_nml ex4 ?_
  refine fr_lstore (pc := 29) (lv' := [(4, .long x4), (0, .ref (g.2.2.2 + 73)), (1, .long a1), (3, .int a3)]) dX9_placeDigest_29 (by decide) rfl ?_
  refine fr_ldc2 (pc := 31) (v := (31 : Int64)) dX9_placeDigest_31 kw_675 ?_
  refine fr_lload (pc := 34) dX9_placeDigest_34 0 rfl ?_
  refine fr_lmul (pc := 36) dX9_placeDigest_36 ?_
  refine fr_aload_n (pc := 37) dX9_placeDigest_37 1 rfl rfl ?_
  refine fr_iconst (pc := 38) (v := (3 : Int32)) dX9_placeDigest_38 (by decide) ?_
  refine fr_iload_n (pc := 39) dX9_placeDigest_39 3 rfl rfl ?_
  obtain ⟨q6, hc5, hf⟩ := fd_bi hf
  refine fr_callVi (pc := 40) (av := [.int (3 : Int32), .int a3]) dX9_placeDigest_40 yy_X9_warmth kw_679 (by decide) rfl rfl rfl rfl (Nat.le_of_ble_eq_true rfl) ⟨Nat.le_of_ble_eq_true rfl, Nat.le_of_ble_eq_true rfl, Nat.zero_le _, Nat.zero_le _⟩ (sX9_warmth hc5) ?_
  refine fr_i2l (pc := 43) dX9_placeDigest_43 ?_
  refine fr_ladd (pc := 44) dX9_placeDigest_44 ?_
  obtain ⟨x7, ex7, hf⟩ := fd_lt_e hf
  refine fr_nml ex7 ?_
  refine fr_lstore (pc := 45) (lv' := [(4, .long x7), (0, .ref (g.2.2.2 + 73)), (1, .long a1), (3, .int a3)]) dX9_placeDigest_45 (by decide) rfl ?_
  refine fr_ldc2 (pc := 47) (v := (31 : Int64)) dX9_placeDigest_47 kw_675 ?_
  refine fr_lload (pc := 50) dX9_placeDigest_50 0 rfl ?_
  refine fr_lmul (pc := 52) dX9_placeDigest_52 ?_
  refine fr_aload_n (pc := 53) dX9_placeDigest_53 1 rfl rfl ?_
  refine fr_iconst (pc := 54) (v := (3 : Int32)) dX9_placeDigest_54 (by decide) ?_
  refine fr_iload_n (pc := 55) dX9_placeDigest_55 3 rfl rfl ?_
  obtain ⟨q9, hc8, hf⟩ := fd_bi hf
  refine fr_callVi (pc := 56) (av := [.int (3 : Int32), .int a3]) dX9_placeDigest_56 yy_X9_freezes kw_683 (by decide) rfl rfl rfl rfl (Nat.le_of_ble_eq_true rfl) ⟨Nat.le_of_ble_eq_true rfl, Nat.le_of_ble_eq_true rfl, Nat.zero_le _, Nat.zero_le _⟩ (sX9_freezes hc8) ?_
  refine fr_i2l (pc := 59) dX9_placeDigest_59 ?_
  refine fr_ladd (pc := 60) dX9_placeDigest_60 ?_
  obtain ⟨x10, ex10, hf⟩ := fd_lt_e hf
  refine fr_nml ex10 ?_
  refine fr_lstore (pc := 61) (lv' := [(4, .long x10), (0, .ref (g.2.2.2 + 73)), (1, .long a1), (3, .int a3)]) dX9_placeDigest_61 (by decide) rfl ?_
  refine fr_ldc2 (pc := 63) (v := (31 : Int64)) dX9_placeDigest_63 kw_675 ?_
  refine fr_lload (pc := 66) dX9_placeDigest_66 0 rfl ?_
  refine fr_lmul (pc := 68) dX9_placeDigest_68 ?_
  refine fr_aload_n (pc := 69) dX9_placeDigest_69 1 rfl rfl ?_
  refine fr_iload_n (pc := 70) dX9_placeDigest_70 3 rfl rfl ?_
  obtain ⟨q12, hc11, hf⟩ := fd_bi hf
  refine fr_callVi (pc := 71) (av := [.int a3]) dX9_placeDigest_71 yy_X9_firstOf kw_630 (by decide) rfl rfl rfl rfl (Nat.le_of_ble_eq_true rfl) ⟨Nat.le_of_ble_eq_true rfl, Nat.le_of_ble_eq_true rfl, Nat.zero_le _, Nat.zero_le _⟩ (sX9_firstOf hc11) ?_
  refine fr_i2l (pc := 74) dX9_placeDigest_74 ?_
  refine fr_ladd (pc := 75) dX9_placeDigest_75 ?_
  obtain ⟨x13, ex13, hf⟩ := fd_lt_e hf
  refine fr_nml ex13 ?_
  refine fr_lstore (pc := 76) (lv' := [(4, .long x13), (0, .ref (g.2.2.2 + 73)), (1, .long a1), (3, .int a3)]) dX9_placeDigest_76 (by decide) rfl ?_
  refine fr_ldc2 (pc := 78) (v := (31 : Int64)) dX9_placeDigest_78 kw_675 ?_
  refine fr_lload (pc := 81) dX9_placeDigest_81 0 rfl ?_
  refine fr_lmul (pc := 83) dX9_placeDigest_83 ?_
  refine fr_aload_n (pc := 84) dX9_placeDigest_84 1 rfl rfl ?_
  refine fr_iload_n (pc := 85) dX9_placeDigest_85 3 rfl rfl ?_
  refine fr_bipush (pc := 86) (v := (9 : Int32)) dX9_placeDigest_86 (by decide) ?_
  refine fr_iconst (pc := 88) (v := (-1 : Int32)) dX9_placeDigest_88 (by decide) ?_
  obtain ⟨q15, hc14, hf⟩ := fd_bi hf
  refine fr_callVi (pc := 89) (av := [.int a3, .int (9 : Int32), .int (-1 : Int32)]) dX9_placeDigest_89 yy_X9_keepOf kw_600 (by decide) rfl rfl rfl rfl (Nat.le_of_ble_eq_true rfl) ⟨Nat.le_of_ble_eq_true rfl, Nat.le_of_ble_eq_true rfl, Nat.zero_le _, Nat.zero_le _⟩ (sX9_keepOf hc14) ?_
  refine fr_i2l (pc := 92) dX9_placeDigest_92 ?_
  refine fr_ladd (pc := 93) dX9_placeDigest_93 ?_
  obtain ⟨x16, ex16, hf⟩ := fd_lt_e hf
  refine fr_nml ex16 ?_
  refine fr_lstore (pc := 94) (lv' := [(4, .long x16), (0, .ref (g.2.2.2 + 73)), (1, .long a1), (3, .int a3)]) dX9_placeDigest_94 (by decide) rfl ?_
  refine fr_ldc2 (pc := 96) (v := (31 : Int64)) dX9_placeDigest_96 kw_675 ?_
  refine fr_lload (pc := 99) dX9_placeDigest_99 0 rfl ?_
  refine fr_lmul (pc := 101) dX9_placeDigest_101 ?_
  refine fr_aload_n (pc := 102) dX9_placeDigest_102 1 rfl rfl ?_
  refine fr_iload_n (pc := 103) dX9_placeDigest_103 3 rfl rfl ?_
  refine fr_bipush (pc := 104) (v := (9 : Int32)) dX9_placeDigest_104 (by decide) ?_
  refine fr_iconst (pc := 106) (v := (0 : Int32)) dX9_placeDigest_106 (by decide) ?_
  obtain ⟨q18, hc17, hf⟩ := fd_bi hf
  refine fr_callVi (pc := 107) (av := [.int a3, .int (9 : Int32), .int (0 : Int32)]) dX9_placeDigest_107 yy_X9_keepOf kw_600 (by decide) rfl rfl rfl rfl (Nat.le_of_ble_eq_true rfl) ⟨Nat.le_of_ble_eq_true rfl, Nat.le_of_ble_eq_true rfl, Nat.zero_le _, Nat.zero_le _⟩ (sX9_keepOf hc17) ?_
  refine fr_i2l (pc := 110) dX9_placeDigest_110 ?_
  refine fr_ladd (pc := 111) dX9_placeDigest_111 ?_
  obtain ⟨x19, ex19, hf⟩ := fd_lt_e hf
  refine fr_nml ex19 ?_
  refine fr_lstore (pc := 112) (lv' := [(4, .long x19), (0, .ref (g.2.2.2 + 73)), (1, .long a1), (3, .int a3)]) dX9_placeDigest_112 (by decide) rfl ?_
  refine fr_ldc2 (pc := 114) (v := (31 : Int64)) dX9_placeDigest_114 kw_675 ?_
  refine fr_lload (pc := 117) dX9_placeDigest_117 0 rfl ?_
  refine fr_lmul (pc := 119) dX9_placeDigest_119 ?_
  refine fr_aload_n (pc := 120) dX9_placeDigest_120 1 rfl rfl ?_
  refine fr_iconst (pc := 121) (v := (5 : Int32)) dX9_placeDigest_121 (by decide) ?_
  refine fr_iload_n (pc := 122) dX9_placeDigest_122 3 rfl rfl ?_
  refine fr_bipush (pc := 123) (v := (9 : Int32)) dX9_placeDigest_123 (by decide) ?_
  refine fr_iconst (pc := 125) (v := (0 : Int32)) dX9_placeDigest_125 (by decide) ?_
  obtain ⟨q21, hc20, hf⟩ := fd_bi hf
  refine fr_callVl (pc := 126) (av := [.int (5 : Int32), .int a3, .int (9 : Int32), .int (0 : Int32)]) dX9_placeDigest_126 yy_X9_chanceOf kw_619 (by decide) rfl rfl rfl rfl (Nat.le_of_ble_eq_true rfl) ⟨Nat.le_of_ble_eq_true rfl, Nat.le_of_ble_eq_true rfl, Nat.zero_le _, Nat.zero_le _⟩ (sX9_chanceOf hc20) ?_
  refine fr_ladd (pc := 129) dX9_placeDigest_129 ?_
  obtain ⟨x22, ex22, hf⟩ := fd_lt_e hf
  refine fr_nml ex22 ?_
  refine fr_lstore (pc := 130) (lv' := [(4, .long x22), (0, .ref (g.2.2.2 + 73)), (1, .long a1), (3, .int a3)]) dX9_placeDigest_130 (by decide) rfl ?_
  refine fr_ldc2 (pc := 132) (v := (31 : Int64)) dX9_placeDigest_132 kw_675 ?_
  refine fr_lload (pc := 135) dX9_placeDigest_135 0 rfl ?_
  refine fr_lmul (pc := 137) dX9_placeDigest_137 ?_
  refine fr_aload_n (pc := 138) dX9_placeDigest_138 1 rfl rfl ?_
  refine fr_iconst (pc := 139) (v := (5 : Int32)) dX9_placeDigest_139 (by decide) ?_
  refine fr_iload_n (pc := 140) dX9_placeDigest_140 3 rfl rfl ?_
  refine fr_bipush (pc := 141) (v := (9 : Int32)) dX9_placeDigest_141 (by decide) ?_
  refine fr_iconst (pc := 143) (v := (1 : Int32)) dX9_placeDigest_143 (by decide) ?_
  obtain ⟨q24, hc23, hf⟩ := fd_bi hf
  refine fr_callVl (pc := 144) (av := [.int (5 : Int32), .int a3, .int (9 : Int32), .int (1 : Int32)]) dX9_placeDigest_144 yy_X9_chanceOf kw_619 (by decide) rfl rfl rfl rfl (Nat.le_of_ble_eq_true rfl) ⟨Nat.le_of_ble_eq_true rfl, Nat.le_of_ble_eq_true rfl, Nat.zero_le _, Nat.zero_le _⟩ (sX9_chanceOf hc23) ?_
  refine fr_ladd (pc := 147) dX9_placeDigest_147 ?_
  obtain ⟨x25, ex25, hf⟩ := fd_lt_e hf
  refine fr_nml ex25 ?_
  refine fr_lstore (pc := 148) (lv' := [(4, .long x25), (0, .ref (g.2.2.2 + 73)), (1, .long a1), (3, .int a3)]) dX9_placeDigest_148 (by decide) rfl ?_
  refine fr_ldc2 (pc := 150) (v := (31 : Int64)) dX9_placeDigest_150 kw_675 ?_
  refine fr_lload (pc := 153) dX9_placeDigest_153 0 rfl ?_
  refine fr_lmul (pc := 155) dX9_placeDigest_155 ?_
  refine fr_aload_n (pc := 156) dX9_placeDigest_156 1 rfl rfl ?_
  refine fr_bipush (pc := 157) (v := (7 : Int32)) dX9_placeDigest_157 (by decide) ?_
  refine fr_iload_n (pc := 159) dX9_placeDigest_159 3 rfl rfl ?_
  obtain ⟨q27, hc26, hf⟩ := fd_bi hf
  refine fr_callVi (pc := 160) (av := [.int (7 : Int32), .int a3]) dX9_placeDigest_160 yy_X9_yearOf kw_626 (by decide) rfl rfl rfl rfl (Nat.le_of_ble_eq_true rfl) ⟨Nat.le_of_ble_eq_true rfl, Nat.le_of_ble_eq_true rfl, Nat.zero_le _, Nat.zero_le _⟩ (sX9_yearOf hc26) ?_
  refine fr_i2l (pc := 163) dX9_placeDigest_163 ?_
  refine fr_ladd (pc := 164) dX9_placeDigest_164 ?_
  exact vm_lretW (x := (((31 : Int64) * x25) + ((q27.1).toInt64))) (pc := 165) dX9_placeDigest_165 rfl hf
theorem dX9_debtDigest_0 : decode cX9_debtDigest 0 = .ok (.lload_n 1, 1) := by decide +kernel
theorem dX9_debtDigest_1 : decode cX9_debtDigest 1 = .ok (.lstore 4, 2) := by decide +kernel
theorem dX9_debtDigest_3 : decode cX9_debtDigest 3 = .ok (.iconst 0, 1) := by decide +kernel
theorem dX9_debtDigest_4 : decode cX9_debtDigest 4 = .ok (.istore 6, 2) := by decide +kernel
theorem dX9_debtDigest_6 : decode cX9_debtDigest 6 = .ok (.iload 6, 2) := by decide +kernel
theorem dX9_debtDigest_8 : decode cX9_debtDigest 8 = .ok (.iconst 5, 1) := by decide +kernel
theorem dX9_debtDigest_9 : decode cX9_debtDigest 9 = .ok (.if_icmp .ge 26, 3) := by decide +kernel
theorem dX9_debtDigest_12 : decode cX9_debtDigest 12 = .ok (.ldc2_w 298, 3) := by decide +kernel
theorem dX9_debtDigest_15 : decode cX9_debtDigest 15 = .ok (.lload 4, 2) := by decide +kernel
theorem dX9_debtDigest_17 : decode cX9_debtDigest 17 = .ok (.lmul, 1) := by decide +kernel
theorem dX9_debtDigest_18 : decode cX9_debtDigest 18 = .ok (.aload_n 0, 1) := by decide +kernel
theorem dX9_debtDigest_19 : decode cX9_debtDigest 19 = .ok (.iload_n 3, 1) := by decide +kernel
theorem dX9_debtDigest_20 : decode cX9_debtDigest 20 = .ok (.iload 6, 2) := by decide +kernel
theorem dX9_debtDigest_22 : decode cX9_debtDigest 22 = .ok (.invokevirtual 143, 3) := by decide +kernel
theorem dX9_debtDigest_25 : decode cX9_debtDigest 25 = .ok (.i2l, 1) := by decide +kernel
theorem dX9_debtDigest_26 : decode cX9_debtDigest 26 = .ok (.ladd, 1) := by decide +kernel
theorem dX9_debtDigest_27 : decode cX9_debtDigest 27 = .ok (.lstore 4, 2) := by decide +kernel
theorem dX9_debtDigest_29 : decode cX9_debtDigest 29 = .ok (.iinc 6 1, 3) := by decide +kernel
theorem dX9_debtDigest_32 : decode cX9_debtDigest 32 = .ok (.goto (-26), 3) := by decide +kernel
theorem dX9_debtDigest_35 : decode cX9_debtDigest 35 = .ok (.ldc2_w 298, 3) := by decide +kernel
theorem dX9_debtDigest_38 : decode cX9_debtDigest 38 = .ok (.lload 4, 2) := by decide +kernel
theorem dX9_debtDigest_40 : decode cX9_debtDigest 40 = .ok (.lmul, 1) := by decide +kernel
theorem dX9_debtDigest_41 : decode cX9_debtDigest 41 = .ok (.aload_n 0, 1) := by decide +kernel
theorem dX9_debtDigest_42 : decode cX9_debtDigest 42 = .ok (.iload_n 3, 1) := by decide +kernel
theorem dX9_debtDigest_43 : decode cX9_debtDigest 43 = .ok (.iconst 0, 1) := by decide +kernel
theorem dX9_debtDigest_44 : decode cX9_debtDigest 44 = .ok (.invokevirtual 201, 3) := by decide +kernel
theorem dX9_debtDigest_47 : decode cX9_debtDigest 47 = .ok (.i2l, 1) := by decide +kernel
theorem dX9_debtDigest_48 : decode cX9_debtDigest 48 = .ok (.ladd, 1) := by decide +kernel
theorem dX9_debtDigest_49 : decode cX9_debtDigest 49 = .ok (.lstore 4, 2) := by decide +kernel
theorem dX9_debtDigest_51 : decode cX9_debtDigest 51 = .ok (.ldc2_w 298, 3) := by decide +kernel
theorem dX9_debtDigest_54 : decode cX9_debtDigest 54 = .ok (.lload 4, 2) := by decide +kernel
theorem dX9_debtDigest_56 : decode cX9_debtDigest 56 = .ok (.lmul, 1) := by decide +kernel
theorem dX9_debtDigest_57 : decode cX9_debtDigest 57 = .ok (.aload_n 0, 1) := by decide +kernel
theorem dX9_debtDigest_58 : decode cX9_debtDigest 58 = .ok (.iload_n 3, 1) := by decide +kernel
theorem dX9_debtDigest_59 : decode cX9_debtDigest 59 = .ok (.iconst 1, 1) := by decide +kernel
theorem dX9_debtDigest_60 : decode cX9_debtDigest 60 = .ok (.invokevirtual 201, 3) := by decide +kernel
theorem dX9_debtDigest_63 : decode cX9_debtDigest 63 = .ok (.i2l, 1) := by decide +kernel
theorem dX9_debtDigest_64 : decode cX9_debtDigest 64 = .ok (.ladd, 1) := by decide +kernel
theorem dX9_debtDigest_65 : decode cX9_debtDigest 65 = .ok (.lstore 4, 2) := by decide +kernel
theorem dX9_debtDigest_67 : decode cX9_debtDigest 67 = .ok (.ldc2_w 298, 3) := by decide +kernel
theorem dX9_debtDigest_70 : decode cX9_debtDigest 70 = .ok (.lload 4, 2) := by decide +kernel
theorem dX9_debtDigest_72 : decode cX9_debtDigest 72 = .ok (.lmul, 1) := by decide +kernel
theorem dX9_debtDigest_73 : decode cX9_debtDigest 73 = .ok (.aload_n 0, 1) := by decide +kernel
theorem dX9_debtDigest_74 : decode cX9_debtDigest 74 = .ok (.iload_n 3, 1) := by decide +kernel
theorem dX9_debtDigest_75 : decode cX9_debtDigest 75 = .ok (.iconst 0, 1) := by decide +kernel
theorem dX9_debtDigest_76 : decode cX9_debtDigest 76 = .ok (.iconst 0, 1) := by decide +kernel
theorem dX9_debtDigest_77 : decode cX9_debtDigest 77 = .ok (.invokevirtual 219, 3) := by decide +kernel
theorem dX9_debtDigest_80 : decode cX9_debtDigest 80 = .ok (.i2l, 1) := by decide +kernel
theorem dX9_debtDigest_81 : decode cX9_debtDigest 81 = .ok (.ladd, 1) := by decide +kernel
theorem dX9_debtDigest_82 : decode cX9_debtDigest 82 = .ok (.lstore 4, 2) := by decide +kernel
theorem dX9_debtDigest_84 : decode cX9_debtDigest 84 = .ok (.ldc2_w 298, 3) := by decide +kernel
theorem dX9_debtDigest_87 : decode cX9_debtDigest 87 = .ok (.lload 4, 2) := by decide +kernel
theorem dX9_debtDigest_89 : decode cX9_debtDigest 89 = .ok (.lmul, 1) := by decide +kernel
theorem dX9_debtDigest_90 : decode cX9_debtDigest 90 = .ok (.aload_n 0, 1) := by decide +kernel
theorem dX9_debtDigest_91 : decode cX9_debtDigest 91 = .ok (.iload_n 3, 1) := by decide +kernel
theorem dX9_debtDigest_92 : decode cX9_debtDigest 92 = .ok (.iconst 0, 1) := by decide +kernel
theorem dX9_debtDigest_93 : decode cX9_debtDigest 93 = .ok (.iconst 1, 1) := by decide +kernel
theorem dX9_debtDigest_94 : decode cX9_debtDigest 94 = .ok (.invokevirtual 219, 3) := by decide +kernel
theorem dX9_debtDigest_97 : decode cX9_debtDigest 97 = .ok (.i2l, 1) := by decide +kernel
theorem dX9_debtDigest_98 : decode cX9_debtDigest 98 = .ok (.ladd, 1) := by decide +kernel
theorem dX9_debtDigest_99 : decode cX9_debtDigest 99 = .ok (.lstore 4, 2) := by decide +kernel
theorem dX9_debtDigest_101 : decode cX9_debtDigest 101 = .ok (.ldc2_w 298, 3) := by decide +kernel
theorem dX9_debtDigest_104 : decode cX9_debtDigest 104 = .ok (.lload 4, 2) := by decide +kernel
theorem dX9_debtDigest_106 : decode cX9_debtDigest 106 = .ok (.lmul, 1) := by decide +kernel
theorem dX9_debtDigest_107 : decode cX9_debtDigest 107 = .ok (.aload_n 0, 1) := by decide +kernel
theorem dX9_debtDigest_108 : decode cX9_debtDigest 108 = .ok (.iload_n 3, 1) := by decide +kernel
theorem dX9_debtDigest_109 : decode cX9_debtDigest 109 = .ok (.iconst 1, 1) := by decide +kernel
theorem dX9_debtDigest_110 : decode cX9_debtDigest 110 = .ok (.iconst 0, 1) := by decide +kernel
theorem dX9_debtDigest_111 : decode cX9_debtDigest 111 = .ok (.invokevirtual 219, 3) := by decide +kernel
theorem dX9_debtDigest_114 : decode cX9_debtDigest 114 = .ok (.i2l, 1) := by decide +kernel
theorem dX9_debtDigest_115 : decode cX9_debtDigest 115 = .ok (.ladd, 1) := by decide +kernel
theorem dX9_debtDigest_116 : decode cX9_debtDigest 116 = .ok (.lstore 4, 2) := by decide +kernel
theorem dX9_debtDigest_118 : decode cX9_debtDigest 118 = .ok (.ldc2_w 298, 3) := by decide +kernel
theorem dX9_debtDigest_121 : decode cX9_debtDigest 121 = .ok (.lload 4, 2) := by decide +kernel
theorem dX9_debtDigest_123 : decode cX9_debtDigest 123 = .ok (.lmul, 1) := by decide +kernel
theorem dX9_debtDigest_124 : decode cX9_debtDigest 124 = .ok (.aload_n 0, 1) := by decide +kernel
theorem dX9_debtDigest_125 : decode cX9_debtDigest 125 = .ok (.iload_n 3, 1) := by decide +kernel
theorem dX9_debtDigest_126 : decode cX9_debtDigest 126 = .ok (.iconst 1, 1) := by decide +kernel
theorem dX9_debtDigest_127 : decode cX9_debtDigest 127 = .ok (.iconst 1, 1) := by decide +kernel
theorem dX9_debtDigest_128 : decode cX9_debtDigest 128 = .ok (.invokevirtual 219, 3) := by decide +kernel
theorem dX9_debtDigest_131 : decode cX9_debtDigest 131 = .ok (.i2l, 1) := by decide +kernel
theorem dX9_debtDigest_132 : decode cX9_debtDigest 132 = .ok (.ladd, 1) := by decide +kernel
theorem dX9_debtDigest_133 : decode cX9_debtDigest 133 = .ok (.lreturn, 1) := by decide +kernel
def fX9_debtDigest_L6 (a1 : Int64) (a3 : Int32) : Nat → Int64 → Int32 → fd_H → Option (Int64 × fd_H)
  | 0 => fun _ _ _ => none
  | n + 1 => fun v4 v6 h =>
if (5 : Int32) ≤ v6 then (
(fX9_lastsOf a3 (0 : Int32) h).bind fun q3 =>
fd_lt ((((31 : Int64) * v4) + ((q3.1).toInt64))) fun x4 =>
(fX9_lastsOf a3 (1 : Int32) q3.2).bind fun q6 =>
fd_lt ((((31 : Int64) * x4) + ((q6.1).toInt64))) fun x7 =>
(fX9_whereOf a3 (0 : Int32) (0 : Int32) q6.2).bind fun q9 =>
fd_lt ((((31 : Int64) * x7) + ((q9.1).toInt64))) fun x10 =>
(fX9_whereOf a3 (0 : Int32) (1 : Int32) q9.2).bind fun q12 =>
fd_lt ((((31 : Int64) * x10) + ((q12.1).toInt64))) fun x13 =>
(fX9_whereOf a3 (1 : Int32) (0 : Int32) q12.2).bind fun q15 =>
fd_lt ((((31 : Int64) * x13) + ((q15.1).toInt64))) fun x16 =>
(fX9_whereOf a3 (1 : Int32) (1 : Int32) q15.2).bind fun q18 =>
some ((((31 : Int64) * x16) + ((q18.1).toInt64)), q18.2))
else (
(fX9_debtOf a3 v6 h).bind fun r20 =>
fd_lt ((((31 : Int64) * v4) + ((r20).toInt64))) fun x21 =>
fX9_debtDigest_L6 a1 a3 n x21 (v6 + (1 : Int32)) h)
set_option maxRecDepth 100000 in
set_option maxHeartbeats 4000000 in
theorem sX9_debtDigest_L6 {g : fd_G} {hm : fd_H} {a1 : Int64} {a3 : Int32} {r : Int64 × fd_H} : ∀ (n : Nat) (v4 : Int64) (v6 : Int32) (h : fd_H), fX9_debtDigest_L6 a1 a3 n v4 v6 h = some r → fd_A g mX9_debtDigest fd_E (fd_rm 9 0 0) (fd_Q g (some (.long r.1)) fd_X0 (fd_mx hm r.2) 0 0) 6 [(0, .ref (g.2.2.2 + 73)), (3, .int a3), (4, .long v4), (6, .int v6)] [] fd_X0 (fd_mx hm h) 0 0 := by
  intro n
  induction n with
  | zero =>
    intro _ _ _ hf
    cases hf
  | succ n ih =>
    intro v4 v6 h hf
    rw [fX9_debtDigest_L6] at hf
    refine fr_iload (pc := 6) dX9_debtDigest_6 3 rfl ?_
    refine fr_iconst (pc := 8) (v := (5 : Int32)) dX9_debtDigest_8 (by decide) ?_
    refine fr_icmp_ge (pc := 9) 35 dX9_debtDigest_9 (by decide) (fun c1 => ?_) (fun c1 => ?_)
    · have hf := fd_t c1 hf
      refine fr_ldc2 (pc := 35) (v := (31 : Int64)) dX9_debtDigest_35 kw_675 ?_
      refine fr_lload (pc := 38) dX9_debtDigest_38 2 rfl ?_
      refine fr_lmul (pc := 40) dX9_debtDigest_40 ?_
      refine fr_aload_n (pc := 41) dX9_debtDigest_41 0 rfl rfl ?_
      refine fr_iload_n (pc := 42) dX9_debtDigest_42 1 rfl rfl ?_
      refine fr_iconst (pc := 43) (v := (0 : Int32)) dX9_debtDigest_43 (by decide) ?_
      obtain ⟨q3, hc2, hf⟩ := fd_bi hf
      refine fr_callVi (pc := 44) (av := [.int a3, .int (0 : Int32)]) dX9_debtDigest_44 yy_X9_lastsOf kw_642 (by decide) rfl rfl rfl rfl (Nat.le_of_ble_eq_true rfl) ⟨Nat.le_of_ble_eq_true rfl, Nat.le_of_ble_eq_true rfl, Nat.zero_le _, Nat.zero_le _⟩ (sX9_lastsOf hc2) ?_
      refine fr_i2l (pc := 47) dX9_debtDigest_47 ?_
      refine fr_ladd (pc := 48) dX9_debtDigest_48 ?_
      obtain ⟨x4, ex4, hf⟩ := fd_lt_e hf
      refine fr_nml ex4 ?_
      refine fr_lstore (pc := 49) (lv' := [(4, .long x4), (0, .ref (g.2.2.2 + 73)), (3, .int a3), (6, .int v6)]) dX9_debtDigest_49 (by decide) rfl ?_
      refine fr_ldc2 (pc := 51) (v := (31 : Int64)) dX9_debtDigest_51 kw_675 ?_
      refine fr_lload (pc := 54) dX9_debtDigest_54 0 rfl ?_
      refine fr_lmul (pc := 56) dX9_debtDigest_56 ?_
      refine fr_aload_n (pc := 57) dX9_debtDigest_57 1 rfl rfl ?_
      refine fr_iload_n (pc := 58) dX9_debtDigest_58 2 rfl rfl ?_
      refine fr_iconst (pc := 59) (v := (1 : Int32)) dX9_debtDigest_59 (by decide) ?_
      obtain ⟨q6, hc5, hf⟩ := fd_bi hf
      refine fr_callVi (pc := 60) (av := [.int a3, .int (1 : Int32)]) dX9_debtDigest_60 yy_X9_lastsOf kw_642 (by decide) rfl rfl rfl rfl (Nat.le_of_ble_eq_true rfl) ⟨Nat.le_of_ble_eq_true rfl, Nat.le_of_ble_eq_true rfl, Nat.zero_le _, Nat.zero_le _⟩ (sX9_lastsOf hc5) ?_
      refine fr_i2l (pc := 63) dX9_debtDigest_63 ?_
      refine fr_ladd (pc := 64) dX9_debtDigest_64 ?_
      obtain ⟨x7, ex7, hf⟩ := fd_lt_e hf
      refine fr_nml ex7 ?_
      refine fr_lstore (pc := 65) (lv' := [(4, .long x7), (0, .ref (g.2.2.2 + 73)), (3, .int a3), (6, .int v6)]) dX9_debtDigest_65 (by decide) rfl ?_
      refine fr_ldc2 (pc := 67) (v := (31 : Int64)) dX9_debtDigest_67 kw_675 ?_
      refine fr_lload (pc := 70) dX9_debtDigest_70 0 rfl ?_
      refine fr_lmul (pc := 72) dX9_debtDigest_72 ?_
      refine fr_aload_n (pc := 73) dX9_debtDigest_73 1 rfl rfl ?_
      refine fr_iload_n (pc := 74) dX9_debtDigest_74 2 rfl rfl ?_
      refine fr_iconst (pc := 75) (v := (0 : Int32)) dX9_debtDigest_75 (by decide) ?_
      refine fr_iconst (pc := 76) (v := (0 : Int32)) dX9_debtDigest_76 (by decide) ?_
      obtain ⟨q9, hc8, hf⟩ := fd_bi hf
      refine fr_callVi (pc := 77) (av := [.int a3, .int (0 : Int32), .int (0 : Int32)]) dX9_debtDigest_77 yy_X9_whereOf kw_662 (by decide) rfl rfl rfl rfl (Nat.le_of_ble_eq_true rfl) ⟨Nat.le_of_ble_eq_true rfl, Nat.le_of_ble_eq_true rfl, Nat.zero_le _, Nat.zero_le _⟩ (sX9_whereOf hc8) ?_
      refine fr_i2l (pc := 80) dX9_debtDigest_80 ?_
      refine fr_ladd (pc := 81) dX9_debtDigest_81 ?_
      obtain ⟨x10, ex10, hf⟩ := fd_lt_e hf
      refine fr_nml ex10 ?_
      refine fr_lstore (pc := 82) (lv' := [(4, .long x10), (0, .ref (g.2.2.2 + 73)), (3, .int a3), (6, .int v6)]) dX9_debtDigest_82 (by decide) rfl ?_
      refine fr_ldc2 (pc := 84) (v := (31 : Int64)) dX9_debtDigest_84 kw_675 ?_
      refine fr_lload (pc := 87) dX9_debtDigest_87 0 rfl ?_
      refine fr_lmul (pc := 89) dX9_debtDigest_89 ?_
      refine fr_aload_n (pc := 90) dX9_debtDigest_90 1 rfl rfl ?_
      refine fr_iload_n (pc := 91) dX9_debtDigest_91 2 rfl rfl ?_
      refine fr_iconst (pc := 92) (v := (0 : Int32)) dX9_debtDigest_92 (by decide) ?_
      refine fr_iconst (pc := 93) (v := (1 : Int32)) dX9_debtDigest_93 (by decide) ?_
      obtain ⟨q12, hc11, hf⟩ := fd_bi hf
      refine fr_callVi (pc := 94) (av := [.int a3, .int (0 : Int32), .int (1 : Int32)]) dX9_debtDigest_94 yy_X9_whereOf kw_662 (by decide) rfl rfl rfl rfl (Nat.le_of_ble_eq_true rfl) ⟨Nat.le_of_ble_eq_true rfl, Nat.le_of_ble_eq_true rfl, Nat.zero_le _, Nat.zero_le _⟩ (sX9_whereOf hc11) ?_
      refine fr_i2l (pc := 97) dX9_debtDigest_97 ?_
      refine fr_ladd (pc := 98) dX9_debtDigest_98 ?_
      obtain ⟨x13, ex13, hf⟩ := fd_lt_e hf
      refine fr_nml ex13 ?_
      refine fr_lstore (pc := 99) (lv' := [(4, .long x13), (0, .ref (g.2.2.2 + 73)), (3, .int a3), (6, .int v6)]) dX9_debtDigest_99 (by decide) rfl ?_
      refine fr_ldc2 (pc := 101) (v := (31 : Int64)) dX9_debtDigest_101 kw_675 ?_
      refine fr_lload (pc := 104) dX9_debtDigest_104 0 rfl ?_
      refine fr_lmul (pc := 106) dX9_debtDigest_106 ?_
      refine fr_aload_n (pc := 107) dX9_debtDigest_107 1 rfl rfl ?_
      refine fr_iload_n (pc := 108) dX9_debtDigest_108 2 rfl rfl ?_
      refine fr_iconst (pc := 109) (v := (1 : Int32)) dX9_debtDigest_109 (by decide) ?_
      refine fr_iconst (pc := 110) (v := (0 : Int32)) dX9_debtDigest_110 (by decide) ?_
      obtain ⟨q15, hc14, hf⟩ := fd_bi hf
      refine fr_callVi (pc := 111) (av := [.int a3, .int (1 : Int32), .int (0 : Int32)]) dX9_debtDigest_111 yy_X9_whereOf kw_662 (by decide) rfl rfl rfl rfl (Nat.le_of_ble_eq_true rfl) ⟨Nat.le_of_ble_eq_true rfl, Nat.le_of_ble_eq_true rfl, Nat.zero_le _, Nat.zero_le _⟩ (sX9_whereOf hc14) ?_
      refine fr_i2l (pc := 114) dX9_debtDigest_114 ?_
      refine fr_ladd (pc := 115) dX9_debtDigest_115 ?_
      obtain ⟨x16, ex16, hf⟩ := fd_lt_e hf
      refine fr_nml ex16 ?_
      refine fr_lstore (pc := 116) (lv' := [(4, .long x16), (0, .ref (g.2.2.2 + 73)), (3, .int a3), (6, .int v6)]) dX9_debtDigest_116 (by decide) rfl ?_
      refine fr_ldc2 (pc := 118) (v := (31 : Int64)) dX9_debtDigest_118 kw_675 ?_
      refine fr_lload (pc := 121) dX9_debtDigest_121 0 rfl ?_
      refine fr_lmul (pc := 123) dX9_debtDigest_123 ?_
      refine fr_aload_n (pc := 124) dX9_debtDigest_124 1 rfl rfl ?_
      refine fr_iload_n (pc := 125) dX9_debtDigest_125 2 rfl rfl ?_
      refine fr_iconst (pc := 126) (v := (1 : Int32)) dX9_debtDigest_126 (by decide) ?_
      refine fr_iconst (pc := 127) (v := (1 : Int32)) dX9_debtDigest_127 (by decide) ?_
      obtain ⟨q18, hc17, hf⟩ := fd_bi hf
      refine fr_callVi (pc := 128) (av := [.int a3, .int (1 : Int32), .int (1 : Int32)]) dX9_debtDigest_128 yy_X9_whereOf kw_662 (by decide) rfl rfl rfl rfl (Nat.le_of_ble_eq_true rfl) ⟨Nat.le_of_ble_eq_true rfl, Nat.le_of_ble_eq_true rfl, Nat.zero_le _, Nat.zero_le _⟩ (sX9_whereOf hc17) ?_
      refine fr_i2l (pc := 131) dX9_debtDigest_131 ?_
      refine fr_ladd (pc := 132) dX9_debtDigest_132 ?_
      exact vm_lretW (x := (((31 : Int64) * x16) + ((q18.1).toInt64))) (pc := 133) dX9_debtDigest_133 rfl hf
    · have hf := fd_f c1 hf
      refine fr_ldc2 (pc := 12) (v := (31 : Int64)) dX9_debtDigest_12 kw_675 ?_
      refine fr_lload (pc := 15) dX9_debtDigest_15 2 rfl ?_
      refine fr_lmul (pc := 17) dX9_debtDigest_17 ?_
      refine fr_aload_n (pc := 18) dX9_debtDigest_18 0 rfl rfl ?_
      refine fr_iload_n (pc := 19) dX9_debtDigest_19 1 rfl rfl ?_
      refine fr_iload (pc := 20) dX9_debtDigest_20 3 rfl ?_
      obtain ⟨r20, hc19, hf⟩ := fd_bi hf
      refine fr_callVi (pc := 22) (av := [.int a3, .int v6]) dX9_debtDigest_22 yy_X9_debtOf kw_559 (by decide) rfl rfl rfl rfl (Nat.le_of_ble_eq_true rfl) ⟨Nat.le_of_ble_eq_true rfl, Nat.le_of_ble_eq_true rfl, Nat.zero_le _, Nat.zero_le _⟩ (sX9_debtOf hc19) ?_
      refine fr_i2l (pc := 25) dX9_debtDigest_25 ?_
      refine fr_ladd (pc := 26) dX9_debtDigest_26 ?_
      obtain ⟨x21, ex21, hf⟩ := fd_lt_e hf
      refine fr_nml ex21 ?_
      refine fr_lstore (pc := 27) (lv' := [(4, .long x21), (0, .ref (g.2.2.2 + 73)), (3, .int a3), (6, .int v6)]) dX9_debtDigest_27 (by decide) rfl ?_
      refine fr_iinc (pc := 29) (v := (v6 + (1 : Int32))) (lv' := [(6, .int (v6 + (1 : Int32))), (4, .long x21), (0, .ref (g.2.2.2 + 73)), (3, .int a3)]) dX9_debtDigest_29 3 rfl rfl (by decide) rfl ?_
      refine fr_goto (pc := 32) 6 dX9_debtDigest_32 (by decide) ?_
      refine fr_loc (lv' := [(0, .ref (g.2.2.2 + 73)), (3, .int a3), (4, .long x21), (6, .int (v6 + (1 : Int32)))]) [2, 3, 1, 0] rfl ?_
      exact ih _ _ _ hf
def fX9_debtDigest (a1 : Int64) (a3 : Int32) (h : fd_H) : Option (Int64 × fd_H) :=
fX9_debtDigest_L6 a1 a3 fd_fu a1 (0 : Int32) h
set_option maxRecDepth 100000 in
set_option maxHeartbeats 4000000 in
theorem sX9_debtDigest {g : fd_G} {hm : fd_H} {a1 : Int64} {a3 : Int32} {r : Int64 × fd_H} {h : fd_H} (hf : fX9_debtDigest a1 a3 h = some r) : fd_S g mX9_debtDigest 9 [.ref (g.2.2.2 + 73), .long a1, .int a3] fd_X0 (fd_mx hm h) (some (.long r.1)) fd_X0 (fd_mx hm r.2) 0 0 := by
  refine fd_S.of (by decide +kernel) (Nat.le_of_ble_eq_true rfl) ?_
  unfold fX9_debtDigest at hf
  refine fr_loc (lv' := [(0, .ref (g.2.2.2 + 73)), (1, .long a1), (3, .int a3)]) [0, 1, 2] rfl ?_
  refine fr_lload_n (pc := 0) dX9_debtDigest_0 1 rfl rfl ?_
  refine fr_lstore (pc := 1) (lv' := [(4, .long a1), (0, .ref (g.2.2.2 + 73)), (1, .long a1), (3, .int a3)]) dX9_debtDigest_1 (by decide) rfl ?_
  refine fr_iconst (pc := 3) (v := (0 : Int32)) dX9_debtDigest_3 (by decide) ?_
  refine fr_istore (pc := 4) (lv' := [(6, .int (0 : Int32)), (4, .long a1), (0, .ref (g.2.2.2 + 73)), (1, .long a1), (3, .int a3)]) dX9_debtDigest_4 (by decide) rfl ?_
  refine fr_loc (lv' := [(0, .ref (g.2.2.2 + 73)), (3, .int a3), (4, .long a1), (6, .int (0 : Int32))]) [2, 4, 1, 0] rfl ?_
  exact sX9_debtDigest_L6 _  _ _ _ hf
theorem dX9_nightDigest_0 : decode cX9_nightDigest 0 = .ok (.ldc2_w 298, 3) := by decide +kernel
theorem dX9_nightDigest_3 : decode cX9_nightDigest 3 = .ok (.lload_n 1, 1) := by decide +kernel
theorem dX9_nightDigest_4 : decode cX9_nightDigest 4 = .ok (.lmul, 1) := by decide +kernel
theorem dX9_nightDigest_5 : decode cX9_nightDigest 5 = .ok (.aload_n 0, 1) := by decide +kernel
theorem dX9_nightDigest_6 : decode cX9_nightDigest 6 = .ok (.iload_n 3, 1) := by decide +kernel
theorem dX9_nightDigest_7 : decode cX9_nightDigest 7 = .ok (.invokevirtual 189, 3) := by decide +kernel
theorem dX9_nightDigest_10 : decode cX9_nightDigest 10 = .ok (.i2l, 1) := by decide +kernel
theorem dX9_nightDigest_11 : decode cX9_nightDigest 11 = .ok (.ladd, 1) := by decide +kernel
theorem dX9_nightDigest_12 : decode cX9_nightDigest 12 = .ok (.lstore 4, 2) := by decide +kernel
theorem dX9_nightDigest_14 : decode cX9_nightDigest 14 = .ok (.ldc2_w 298, 3) := by decide +kernel
theorem dX9_nightDigest_17 : decode cX9_nightDigest 17 = .ok (.lload 4, 2) := by decide +kernel
theorem dX9_nightDigest_19 : decode cX9_nightDigest 19 = .ok (.lmul, 1) := by decide +kernel
theorem dX9_nightDigest_20 : decode cX9_nightDigest 20 = .ok (.aload_n 0, 1) := by decide +kernel
theorem dX9_nightDigest_21 : decode cX9_nightDigest 21 = .ok (.iload_n 3, 1) := by decide +kernel
theorem dX9_nightDigest_22 : decode cX9_nightDigest 22 = .ok (.invokevirtual 213, 3) := by decide +kernel
theorem dX9_nightDigest_25 : decode cX9_nightDigest 25 = .ok (.i2l, 1) := by decide +kernel
theorem dX9_nightDigest_26 : decode cX9_nightDigest 26 = .ok (.ladd, 1) := by decide +kernel
theorem dX9_nightDigest_27 : decode cX9_nightDigest 27 = .ok (.lstore 4, 2) := by decide +kernel
theorem dX9_nightDigest_29 : decode cX9_nightDigest 29 = .ok (.ldc2_w 298, 3) := by decide +kernel
theorem dX9_nightDigest_32 : decode cX9_nightDigest 32 = .ok (.lload 4, 2) := by decide +kernel
theorem dX9_nightDigest_34 : decode cX9_nightDigest 34 = .ok (.lmul, 1) := by decide +kernel
theorem dX9_nightDigest_35 : decode cX9_nightDigest 35 = .ok (.aload_n 0, 1) := by decide +kernel
theorem dX9_nightDigest_36 : decode cX9_nightDigest 36 = .ok (.iload_n 3, 1) := by decide +kernel
theorem dX9_nightDigest_37 : decode cX9_nightDigest 37 = .ok (.invokevirtual 306, 3) := by decide +kernel
theorem dX9_nightDigest_40 : decode cX9_nightDigest 40 = .ok (.i2l, 1) := by decide +kernel
theorem dX9_nightDigest_41 : decode cX9_nightDigest 41 = .ok (.ladd, 1) := by decide +kernel
theorem dX9_nightDigest_42 : decode cX9_nightDigest 42 = .ok (.lstore 4, 2) := by decide +kernel
theorem dX9_nightDigest_44 : decode cX9_nightDigest 44 = .ok (.ldc2_w 298, 3) := by decide +kernel
theorem dX9_nightDigest_47 : decode cX9_nightDigest 47 = .ok (.lload 4, 2) := by decide +kernel
theorem dX9_nightDigest_49 : decode cX9_nightDigest 49 = .ok (.lmul, 1) := by decide +kernel
theorem dX9_nightDigest_50 : decode cX9_nightDigest 50 = .ok (.aload_n 0, 1) := by decide +kernel
theorem dX9_nightDigest_51 : decode cX9_nightDigest 51 = .ok (.iload_n 3, 1) := by decide +kernel
theorem dX9_nightDigest_52 : decode cX9_nightDigest 52 = .ok (.invokevirtual 309, 3) := by decide +kernel
theorem dX9_nightDigest_55 : decode cX9_nightDigest 55 = .ok (.i2l, 1) := by decide +kernel
theorem dX9_nightDigest_56 : decode cX9_nightDigest 56 = .ok (.ladd, 1) := by decide +kernel
theorem dX9_nightDigest_57 : decode cX9_nightDigest 57 = .ok (.lreturn, 1) := by decide +kernel
def fX9_nightDigest (a1 : Int64) (a3 : Int32) (h : fd_H) : Option (Int64 × fd_H) :=
(fX9_hadOf a3 h).bind fun q2 =>
fd_lt ((((31 : Int64) * a1) + ((q2.1).toInt64))) fun x3 =>
(fX9_hangsOf a3 q2.2).bind fun q5 =>
fd_lt ((((31 : Int64) * x3) + ((q5.1).toInt64))) fun x6 =>
(fX9_was a3 q5.2).bind fun q8 =>
fd_lt ((((31 : Int64) * x6) + ((q8.1).toInt64))) fun x9 =>
(fX9_ask a3 q8.2).bind fun q11 =>
some ((((31 : Int64) * x9) + ((q11.1).toInt64)), q11.2)
set_option maxRecDepth 100000 in
set_option maxHeartbeats 4000000 in
theorem sX9_nightDigest {g : fd_G} {hm : fd_H} {a1 : Int64} {a3 : Int32} {r : Int64 × fd_H} {h : fd_H} (hf : fX9_nightDigest a1 a3 h = some r) : fd_S g mX9_nightDigest 10 [.ref (g.2.2.2 + 73), .long a1, .int a3] fd_X0 (fd_mx hm h) (some (.long r.1)) fd_X0 (fd_mx hm r.2) 0 0 := by
  refine fd_S.of (by decide +kernel) (Nat.le_of_ble_eq_true rfl) ?_
  unfold fX9_nightDigest at hf
  refine fr_loc (lv' := [(0, .ref (g.2.2.2 + 73)), (1, .long a1), (3, .int a3)]) [0, 1, 2] rfl ?_
  refine fr_ldc2 (pc := 0) (v := (31 : Int64)) dX9_nightDigest_0 kw_675 ?_
  refine fr_lload_n (pc := 3) dX9_nightDigest_3 1 rfl rfl ?_
  refine fr_lmul (pc := 4) dX9_nightDigest_4 ?_
  refine fr_aload_n (pc := 5) dX9_nightDigest_5 0 rfl rfl ?_
  refine fr_iload_n (pc := 6) dX9_nightDigest_6 2 rfl rfl ?_
  obtain ⟨q2, hc1, hf⟩ := fd_bi hf
  refine fr_callVi (pc := 7) (av := [.int a3]) dX9_nightDigest_7 yy_X9_hadOf kw_634 (by decide) rfl rfl rfl rfl (Nat.le_of_ble_eq_true rfl) ⟨Nat.le_of_ble_eq_true rfl, Nat.le_of_ble_eq_true rfl, Nat.zero_le _, Nat.zero_le _⟩ (sX9_hadOf hc1) ?_
  refine fr_i2l (pc := 10) dX9_nightDigest_10 ?_
  refine fr_ladd (pc := 11) dX9_nightDigest_11 ?_
  obtain ⟨x3, ex3, hf⟩ := fd_lt_e hf
  refine fr_nml ex3 ?_
  refine fr_lstore (pc := 12) (lv' := [(4, .long x3), (0, .ref (g.2.2.2 + 73)), (1, .long a1), (3, .int a3)]) dX9_nightDigest_12 (by decide) rfl ?_
  refine fr_ldc2 (pc := 14) (v := (31 : Int64)) dX9_nightDigest_14 kw_675 ?_
  refine fr_lload (pc := 17) dX9_nightDigest_17 0 rfl ?_
  refine fr_lmul (pc := 19) dX9_nightDigest_19 ?_
  refine fr_aload_n (pc := 20) dX9_nightDigest_20 1 rfl rfl ?_
  refine fr_iload_n (pc := 21) dX9_nightDigest_21 3 rfl rfl ?_
  obtain ⟨q5, hc4, hf⟩ := fd_bi hf
  refine fr_callVi (pc := 22) (av := [.int a3]) dX9_nightDigest_22 yy_X9_hangsOf kw_654 (by decide) rfl rfl rfl rfl (Nat.le_of_ble_eq_true rfl) ⟨Nat.le_of_ble_eq_true rfl, Nat.le_of_ble_eq_true rfl, Nat.zero_le _, Nat.zero_le _⟩ (sX9_hangsOf hc4) ?_
  refine fr_i2l (pc := 25) dX9_nightDigest_25 ?_
  refine fr_ladd (pc := 26) dX9_nightDigest_26 ?_
  obtain ⟨x6, ex6, hf⟩ := fd_lt_e hf
  refine fr_nml ex6 ?_
  refine fr_lstore (pc := 27) (lv' := [(4, .long x6), (0, .ref (g.2.2.2 + 73)), (1, .long a1), (3, .int a3)]) dX9_nightDigest_27 (by decide) rfl ?_
  refine fr_ldc2 (pc := 29) (v := (31 : Int64)) dX9_nightDigest_29 kw_675 ?_
  refine fr_lload (pc := 32) dX9_nightDigest_32 0 rfl ?_
  refine fr_lmul (pc := 34) dX9_nightDigest_34 ?_
  refine fr_aload_n (pc := 35) dX9_nightDigest_35 1 rfl rfl ?_
  refine fr_iload_n (pc := 36) dX9_nightDigest_36 3 rfl rfl ?_
  obtain ⟨q8, hc7, hf⟩ := fd_bi hf
  refine fr_callVi (pc := 37) (av := [.int a3]) dX9_nightDigest_37 yy_X9_was kw_687 (by decide) rfl rfl rfl rfl (Nat.le_of_ble_eq_true rfl) ⟨Nat.le_of_ble_eq_true rfl, Nat.le_of_ble_eq_true rfl, Nat.zero_le _, Nat.zero_le _⟩ (sX9_was hc7) ?_
  refine fr_i2l (pc := 40) dX9_nightDigest_40 ?_
  refine fr_ladd (pc := 41) dX9_nightDigest_41 ?_
  obtain ⟨x9, ex9, hf⟩ := fd_lt_e hf
  refine fr_nml ex9 ?_
  refine fr_lstore (pc := 42) (lv' := [(4, .long x9), (0, .ref (g.2.2.2 + 73)), (1, .long a1), (3, .int a3)]) dX9_nightDigest_42 (by decide) rfl ?_
  refine fr_ldc2 (pc := 44) (v := (31 : Int64)) dX9_nightDigest_44 kw_675 ?_
  refine fr_lload (pc := 47) dX9_nightDigest_47 0 rfl ?_
  refine fr_lmul (pc := 49) dX9_nightDigest_49 ?_
  refine fr_aload_n (pc := 50) dX9_nightDigest_50 1 rfl rfl ?_
  refine fr_iload_n (pc := 51) dX9_nightDigest_51 3 rfl rfl ?_
  obtain ⟨q11, hc10, hf⟩ := fd_bi hf
  refine fr_callVi (pc := 52) (av := [.int a3]) dX9_nightDigest_52 yy_X9_ask kw_691 (by decide) rfl rfl rfl rfl (Nat.le_of_ble_eq_true rfl) ⟨Nat.le_of_ble_eq_true rfl, Nat.le_of_ble_eq_true rfl, Nat.zero_le _, Nat.zero_le _⟩ (sX9_ask hc10) ?_
  refine fr_i2l (pc := 55) dX9_nightDigest_55 ?_
  refine fr_ladd (pc := 56) dX9_nightDigest_56 ?_
  exact vm_lretW (x := (((31 : Int64) * x9) + ((q11.1).toInt64))) (pc := 57) dX9_nightDigest_57 rfl hf
theorem dX9_digest_0 : decode cX9_digest 0 = .ok (.ldc2_w 312, 3) := by decide +kernel
theorem dX9_digest_3 : decode cX9_digest 3 = .ok (.lstore_n 1, 1) := by decide +kernel
theorem dX9_digest_4 : decode cX9_digest 4 = .ok (.iconst 0, 1) := by decide +kernel
theorem dX9_digest_5 : decode cX9_digest 5 = .ok (.istore_n 3, 1) := by decide +kernel
theorem dX9_digest_6 : decode cX9_digest 6 = .ok (.iload_n 3, 1) := by decide +kernel
theorem dX9_digest_7 : decode cX9_digest 7 = .ok (.bipush 8, 2) := by decide +kernel
theorem dX9_digest_9 : decode cX9_digest 9 = .ok (.if_icmp .ge 22, 3) := by decide +kernel
theorem dX9_digest_12 : decode cX9_digest 12 = .ok (.ldc2_w 298, 3) := by decide +kernel
theorem dX9_digest_15 : decode cX9_digest 15 = .ok (.lload_n 1, 1) := by decide +kernel
theorem dX9_digest_16 : decode cX9_digest 16 = .ok (.lmul, 1) := by decide +kernel
theorem dX9_digest_17 : decode cX9_digest 17 = .ok (.aload_n 0, 1) := by decide +kernel
theorem dX9_digest_18 : decode cX9_digest 18 = .ok (.iload_n 3, 1) := by decide +kernel
theorem dX9_digest_19 : decode cX9_digest 19 = .ok (.invokevirtual 314, 3) := by decide +kernel
theorem dX9_digest_22 : decode cX9_digest 22 = .ok (.i2l, 1) := by decide +kernel
theorem dX9_digest_23 : decode cX9_digest 23 = .ok (.ladd, 1) := by decide +kernel
theorem dX9_digest_24 : decode cX9_digest 24 = .ok (.lstore_n 1, 1) := by decide +kernel
theorem dX9_digest_25 : decode cX9_digest 25 = .ok (.iinc 3 1, 3) := by decide +kernel
theorem dX9_digest_28 : decode cX9_digest 28 = .ok (.goto (-22), 3) := by decide +kernel
theorem dX9_digest_31 : decode cX9_digest 31 = .ok (.iconst 0, 1) := by decide +kernel
theorem dX9_digest_32 : decode cX9_digest 32 = .ok (.istore_n 3, 1) := by decide +kernel
theorem dX9_digest_33 : decode cX9_digest 33 = .ok (.iload_n 3, 1) := by decide +kernel
theorem dX9_digest_34 : decode cX9_digest 34 = .ok (.iconst 3, 1) := by decide +kernel
theorem dX9_digest_35 : decode cX9_digest 35 = .ok (.if_icmp .ge 22, 3) := by decide +kernel
theorem dX9_digest_38 : decode cX9_digest 38 = .ok (.ldc2_w 298, 3) := by decide +kernel
theorem dX9_digest_41 : decode cX9_digest 41 = .ok (.lload_n 1, 1) := by decide +kernel
theorem dX9_digest_42 : decode cX9_digest 42 = .ok (.lmul, 1) := by decide +kernel
theorem dX9_digest_43 : decode cX9_digest 43 = .ok (.aload_n 0, 1) := by decide +kernel
theorem dX9_digest_44 : decode cX9_digest 44 = .ok (.iload_n 3, 1) := by decide +kernel
theorem dX9_digest_45 : decode cX9_digest 45 = .ok (.invokevirtual 128, 3) := by decide +kernel
theorem dX9_digest_48 : decode cX9_digest 48 = .ok (.i2l, 1) := by decide +kernel
theorem dX9_digest_49 : decode cX9_digest 49 = .ok (.ladd, 1) := by decide +kernel
theorem dX9_digest_50 : decode cX9_digest 50 = .ok (.lstore_n 1, 1) := by decide +kernel
theorem dX9_digest_51 : decode cX9_digest 51 = .ok (.iinc 3 1, 3) := by decide +kernel
theorem dX9_digest_54 : decode cX9_digest 54 = .ok (.goto (-21), 3) := by decide +kernel
theorem dX9_digest_57 : decode cX9_digest 57 = .ok (.iconst 0, 1) := by decide +kernel
theorem dX9_digest_58 : decode cX9_digest 58 = .ok (.istore_n 3, 1) := by decide +kernel
theorem dX9_digest_59 : decode cX9_digest 59 = .ok (.iload_n 3, 1) := by decide +kernel
theorem dX9_digest_60 : decode cX9_digest 60 = .ok (.aload_n 0, 1) := by decide +kernel
theorem dX9_digest_61 : decode cX9_digest 61 = .ok (.getfield 105, 3) := by decide +kernel
theorem dX9_digest_64 : decode cX9_digest 64 = .ok (.if_icmp .ge 16, 3) := by decide +kernel
theorem dX9_digest_67 : decode cX9_digest 67 = .ok (.aload_n 0, 1) := by decide +kernel
theorem dX9_digest_68 : decode cX9_digest 68 = .ok (.lload_n 1, 1) := by decide +kernel
theorem dX9_digest_69 : decode cX9_digest 69 = .ok (.iload_n 3, 1) := by decide +kernel
theorem dX9_digest_70 : decode cX9_digest 70 = .ok (.invokevirtual 317, 3) := by decide +kernel
theorem dX9_digest_73 : decode cX9_digest 73 = .ok (.lstore_n 1, 1) := by decide +kernel
theorem dX9_digest_74 : decode cX9_digest 74 = .ok (.iinc 3 1, 3) := by decide +kernel
theorem dX9_digest_77 : decode cX9_digest 77 = .ok (.goto (-18), 3) := by decide +kernel
theorem dX9_digest_80 : decode cX9_digest 80 = .ok (.iconst 0, 1) := by decide +kernel
theorem dX9_digest_81 : decode cX9_digest 81 = .ok (.istore_n 3, 1) := by decide +kernel
theorem dX9_digest_82 : decode cX9_digest 82 = .ok (.iload_n 3, 1) := by decide +kernel
theorem dX9_digest_83 : decode cX9_digest 83 = .ok (.aload_n 0, 1) := by decide +kernel
theorem dX9_digest_84 : decode cX9_digest 84 = .ok (.getfield 108, 3) := by decide +kernel
theorem dX9_digest_87 : decode cX9_digest 87 = .ok (.if_icmp .ge 16, 3) := by decide +kernel
theorem dX9_digest_90 : decode cX9_digest 90 = .ok (.aload_n 0, 1) := by decide +kernel
theorem dX9_digest_91 : decode cX9_digest 91 = .ok (.lload_n 1, 1) := by decide +kernel
theorem dX9_digest_92 : decode cX9_digest 92 = .ok (.iload_n 3, 1) := by decide +kernel
theorem dX9_digest_93 : decode cX9_digest 93 = .ok (.invokevirtual 321, 3) := by decide +kernel
theorem dX9_digest_96 : decode cX9_digest 96 = .ok (.lstore_n 1, 1) := by decide +kernel
theorem dX9_digest_97 : decode cX9_digest 97 = .ok (.iinc 3 1, 3) := by decide +kernel
theorem dX9_digest_100 : decode cX9_digest 100 = .ok (.goto (-18), 3) := by decide +kernel
theorem dX9_digest_103 : decode cX9_digest 103 = .ok (.iconst 0, 1) := by decide +kernel
theorem dX9_digest_104 : decode cX9_digest 104 = .ok (.istore_n 3, 1) := by decide +kernel
theorem dX9_digest_105 : decode cX9_digest 105 = .ok (.iload_n 3, 1) := by decide +kernel
theorem dX9_digest_106 : decode cX9_digest 106 = .ok (.bipush 6, 2) := by decide +kernel
theorem dX9_digest_108 : decode cX9_digest 108 = .ok (.if_icmp .ge 83, 3) := by decide +kernel
theorem dX9_digest_111 : decode cX9_digest 111 = .ok (.ldc2_w 298, 3) := by decide +kernel
theorem dX9_digest_114 : decode cX9_digest 114 = .ok (.lload_n 1, 1) := by decide +kernel
theorem dX9_digest_115 : decode cX9_digest 115 = .ok (.lmul, 1) := by decide +kernel
theorem dX9_digest_116 : decode cX9_digest 116 = .ok (.aload_n 0, 1) := by decide +kernel
theorem dX9_digest_117 : decode cX9_digest 117 = .ok (.iload_n 3, 1) := by decide +kernel
theorem dX9_digest_118 : decode cX9_digest 118 = .ok (.iconst 5, 1) := by decide +kernel
theorem dX9_digest_119 : decode cX9_digest 119 = .ok (.iconst 0, 1) := by decide +kernel
theorem dX9_digest_120 : decode cX9_digest 120 = .ok (.invokevirtual 210, 3) := by decide +kernel
theorem dX9_digest_123 : decode cX9_digest 123 = .ok (.i2l, 1) := by decide +kernel
theorem dX9_digest_124 : decode cX9_digest 124 = .ok (.ladd, 1) := by decide +kernel
theorem dX9_digest_125 : decode cX9_digest 125 = .ok (.lstore_n 1, 1) := by decide +kernel
theorem dX9_digest_126 : decode cX9_digest 126 = .ok (.ldc2_w 298, 3) := by decide +kernel
theorem dX9_digest_129 : decode cX9_digest 129 = .ok (.lload_n 1, 1) := by decide +kernel
theorem dX9_digest_130 : decode cX9_digest 130 = .ok (.lmul, 1) := by decide +kernel
theorem dX9_digest_131 : decode cX9_digest 131 = .ok (.aload_n 0, 1) := by decide +kernel
theorem dX9_digest_132 : decode cX9_digest 132 = .ok (.iload_n 3, 1) := by decide +kernel
theorem dX9_digest_133 : decode cX9_digest 133 = .ok (.iconst 5, 1) := by decide +kernel
theorem dX9_digest_134 : decode cX9_digest 134 = .ok (.iconst 1, 1) := by decide +kernel
theorem dX9_digest_135 : decode cX9_digest 135 = .ok (.invokevirtual 210, 3) := by decide +kernel
theorem dX9_digest_138 : decode cX9_digest 138 = .ok (.i2l, 1) := by decide +kernel
theorem dX9_digest_139 : decode cX9_digest 139 = .ok (.ladd, 1) := by decide +kernel
theorem dX9_digest_140 : decode cX9_digest 140 = .ok (.lstore_n 1, 1) := by decide +kernel
theorem dX9_digest_141 : decode cX9_digest 141 = .ok (.ldc2_w 298, 3) := by decide +kernel
theorem dX9_digest_144 : decode cX9_digest 144 = .ok (.lload_n 1, 1) := by decide +kernel
theorem dX9_digest_145 : decode cX9_digest 145 = .ok (.lmul, 1) := by decide +kernel
theorem dX9_digest_146 : decode cX9_digest 146 = .ok (.aload_n 0, 1) := by decide +kernel
theorem dX9_digest_147 : decode cX9_digest 147 = .ok (.iload_n 3, 1) := by decide +kernel
theorem dX9_digest_148 : decode cX9_digest 148 = .ok (.iconst 0, 1) := by decide +kernel
theorem dX9_digest_149 : decode cX9_digest 149 = .ok (.invokevirtual 216, 3) := by decide +kernel
theorem dX9_digest_152 : decode cX9_digest 152 = .ok (.i2l, 1) := by decide +kernel
theorem dX9_digest_153 : decode cX9_digest 153 = .ok (.ladd, 1) := by decide +kernel
theorem dX9_digest_154 : decode cX9_digest 154 = .ok (.lstore_n 1, 1) := by decide +kernel
theorem dX9_digest_155 : decode cX9_digest 155 = .ok (.ldc2_w 298, 3) := by decide +kernel
theorem dX9_digest_158 : decode cX9_digest 158 = .ok (.lload_n 1, 1) := by decide +kernel
theorem dX9_digest_159 : decode cX9_digest 159 = .ok (.lmul, 1) := by decide +kernel
theorem dX9_digest_160 : decode cX9_digest 160 = .ok (.aload_n 0, 1) := by decide +kernel
theorem dX9_digest_161 : decode cX9_digest 161 = .ok (.iload_n 3, 1) := by decide +kernel
theorem dX9_digest_162 : decode cX9_digest 162 = .ok (.iconst 5, 1) := by decide +kernel
theorem dX9_digest_163 : decode cX9_digest 163 = .ok (.iconst (-1), 1) := by decide +kernel
theorem dX9_digest_164 : decode cX9_digest 164 = .ok (.invokevirtual 324, 3) := by decide +kernel
theorem dX9_digest_167 : decode cX9_digest 167 = .ok (.i2l, 1) := by decide +kernel
theorem dX9_digest_168 : decode cX9_digest 168 = .ok (.ladd, 1) := by decide +kernel
theorem dX9_digest_169 : decode cX9_digest 169 = .ok (.lstore_n 1, 1) := by decide +kernel
theorem dX9_digest_170 : decode cX9_digest 170 = .ok (.ldc2_w 298, 3) := by decide +kernel
theorem dX9_digest_173 : decode cX9_digest 173 = .ok (.lload_n 1, 1) := by decide +kernel
theorem dX9_digest_174 : decode cX9_digest 174 = .ok (.lmul, 1) := by decide +kernel
theorem dX9_digest_175 : decode cX9_digest 175 = .ok (.aload_n 0, 1) := by decide +kernel
theorem dX9_digest_176 : decode cX9_digest 176 = .ok (.iload_n 3, 1) := by decide +kernel
theorem dX9_digest_177 : decode cX9_digest 177 = .ok (.iconst 5, 1) := by decide +kernel
theorem dX9_digest_178 : decode cX9_digest 178 = .ok (.iconst 0, 1) := by decide +kernel
theorem dX9_digest_179 : decode cX9_digest 179 = .ok (.invokevirtual 324, 3) := by decide +kernel
theorem dX9_digest_182 : decode cX9_digest 182 = .ok (.i2l, 1) := by decide +kernel
theorem dX9_digest_183 : decode cX9_digest 183 = .ok (.ladd, 1) := by decide +kernel
theorem dX9_digest_184 : decode cX9_digest 184 = .ok (.lstore_n 1, 1) := by decide +kernel
theorem dX9_digest_185 : decode cX9_digest 185 = .ok (.iinc 3 1, 3) := by decide +kernel
theorem dX9_digest_188 : decode cX9_digest 188 = .ok (.goto (-83), 3) := by decide +kernel
theorem dX9_digest_191 : decode cX9_digest 191 = .ok (.aload_n 0, 1) := by decide +kernel
theorem dX9_digest_192 : decode cX9_digest 192 = .ok (.lload_n 1, 1) := by decide +kernel
theorem dX9_digest_193 : decode cX9_digest 193 = .ok (.iconst 0, 1) := by decide +kernel
theorem dX9_digest_194 : decode cX9_digest 194 = .ok (.invokevirtual 327, 3) := by decide +kernel
theorem dX9_digest_197 : decode cX9_digest 197 = .ok (.lstore_n 1, 1) := by decide +kernel
theorem dX9_digest_198 : decode cX9_digest 198 = .ok (.aload_n 0, 1) := by decide +kernel
theorem dX9_digest_199 : decode cX9_digest 199 = .ok (.lload_n 1, 1) := by decide +kernel
theorem dX9_digest_200 : decode cX9_digest 200 = .ok (.iconst 5, 1) := by decide +kernel
theorem dX9_digest_201 : decode cX9_digest 201 = .ok (.invokevirtual 327, 3) := by decide +kernel
theorem dX9_digest_204 : decode cX9_digest 204 = .ok (.lstore_n 1, 1) := by decide +kernel
theorem dX9_digest_205 : decode cX9_digest 205 = .ok (.aload_n 0, 1) := by decide +kernel
theorem dX9_digest_206 : decode cX9_digest 206 = .ok (.lload_n 1, 1) := by decide +kernel
theorem dX9_digest_207 : decode cX9_digest 207 = .ok (.bipush 20, 2) := by decide +kernel
theorem dX9_digest_209 : decode cX9_digest 209 = .ok (.invokevirtual 327, 3) := by decide +kernel
theorem dX9_digest_212 : decode cX9_digest 212 = .ok (.lstore_n 1, 1) := by decide +kernel
theorem dX9_digest_213 : decode cX9_digest 213 = .ok (.aload_n 0, 1) := by decide +kernel
theorem dX9_digest_214 : decode cX9_digest 214 = .ok (.lload_n 1, 1) := by decide +kernel
theorem dX9_digest_215 : decode cX9_digest 215 = .ok (.bipush 39, 2) := by decide +kernel
theorem dX9_digest_217 : decode cX9_digest 217 = .ok (.invokevirtual 327, 3) := by decide +kernel
theorem dX9_digest_220 : decode cX9_digest 220 = .ok (.lstore_n 1, 1) := by decide +kernel
theorem dX9_digest_221 : decode cX9_digest 221 = .ok (.ldc2_w 298, 3) := by decide +kernel
theorem dX9_digest_224 : decode cX9_digest 224 = .ok (.lload_n 1, 1) := by decide +kernel
theorem dX9_digest_225 : decode cX9_digest 225 = .ok (.lmul, 1) := by decide +kernel
theorem dX9_digest_226 : decode cX9_digest 226 = .ok (.aload_n 0, 1) := by decide +kernel
theorem dX9_digest_227 : decode cX9_digest 227 = .ok (.invokevirtual 204, 3) := by decide +kernel
theorem dX9_digest_230 : decode cX9_digest 230 = .ok (.i2l, 1) := by decide +kernel
theorem dX9_digest_231 : decode cX9_digest 231 = .ok (.ladd, 1) := by decide +kernel
theorem dX9_digest_232 : decode cX9_digest 232 = .ok (.lstore_n 1, 1) := by decide +kernel
theorem dX9_digest_233 : decode cX9_digest 233 = .ok (.ldc2_w 298, 3) := by decide +kernel
theorem dX9_digest_236 : decode cX9_digest 236 = .ok (.lload_n 1, 1) := by decide +kernel
theorem dX9_digest_237 : decode cX9_digest 237 = .ok (.lmul, 1) := by decide +kernel
theorem dX9_digest_238 : decode cX9_digest 238 = .ok (.aload_n 0, 1) := by decide +kernel
theorem dX9_digest_239 : decode cX9_digest 239 = .ok (.invokevirtual 254, 3) := by decide +kernel
theorem dX9_digest_242 : decode cX9_digest 242 = .ok (.i2l, 1) := by decide +kernel
theorem dX9_digest_243 : decode cX9_digest 243 = .ok (.ladd, 1) := by decide +kernel
theorem dX9_digest_244 : decode cX9_digest 244 = .ok (.lstore_n 1, 1) := by decide +kernel
theorem dX9_digest_245 : decode cX9_digest 245 = .ok (.ldc2_w 298, 3) := by decide +kernel
theorem dX9_digest_248 : decode cX9_digest 248 = .ok (.lload_n 1, 1) := by decide +kernel
theorem dX9_digest_249 : decode cX9_digest 249 = .ok (.lmul, 1) := by decide +kernel
theorem dX9_digest_250 : decode cX9_digest 250 = .ok (.aload_n 0, 1) := by decide +kernel
theorem dX9_digest_251 : decode cX9_digest 251 = .ok (.bipush 7, 2) := by decide +kernel
theorem dX9_digest_253 : decode cX9_digest 253 = .ok (.iconst (-1), 1) := by decide +kernel
theorem dX9_digest_254 : decode cX9_digest 254 = .ok (.invokevirtual 278, 3) := by decide +kernel
theorem dX9_digest_257 : decode cX9_digest 257 = .ok (.i2l, 1) := by decide +kernel
theorem dX9_digest_258 : decode cX9_digest 258 = .ok (.ladd, 1) := by decide +kernel
theorem dX9_digest_259 : decode cX9_digest 259 = .ok (.lreturn, 1) := by decide +kernel
def fX9_digest_L105  : Nat → Int64 → Int32 → fd_H → Option (Int64 × fd_H)
  | 0 => fun _ _ _ => none
  | n + 1 => fun v1 v3 h =>
if (6 : Int32) ≤ v3 then (
(fX9_nightDigest v1 (0 : Int32) h).bind fun q3 =>
(fX9_nightDigest q3.1 (5 : Int32) q3.2).bind fun q5 =>
(fX9_nightDigest q5.1 (20 : Int32) q5.2).bind fun q7 =>
(fX9_nightDigest q7.1 (39 : Int32) q7.2).bind fun q9 =>
(fX9_neverNow q9.2).bind fun q11 =>
fd_lt ((((31 : Int64) * q9.1) + ((q11.1).toInt64))) fun x12 =>
(fX9_carriedNow q11.2).bind fun q14 =>
fd_lt ((((31 : Int64) * x12) + ((q14.1).toInt64))) fun x15 =>
(fX9_yearOf (7 : Int32) (-1 : Int32) q14.2).bind fun q17 =>
some ((((31 : Int64) * x15) + ((q17.1).toInt64)), q17.2))
else (
(fX9_owesOf v3 (5 : Int32) (0 : Int32) h).bind fun q19 =>
fd_lt ((((31 : Int64) * v1) + ((q19.1).toInt64))) fun x20 =>
(fX9_owesOf v3 (5 : Int32) (1 : Int32) q19.2).bind fun q22 =>
fd_lt ((((31 : Int64) * x20) + ((q22.1).toInt64))) fun x23 =>
(fX9_freeOf v3 (0 : Int32) q22.2).bind fun q25 =>
fd_lt ((((31 : Int64) * x23) + ((q25.1).toInt64))) fun x26 =>
(fX9_carry v3 (5 : Int32) (-1 : Int32) q25.2).bind fun q28 =>
fd_lt ((((31 : Int64) * x26) + ((q28.1).toInt64))) fun x29 =>
(fX9_carry v3 (5 : Int32) (0 : Int32) q28.2).bind fun q31 =>
fd_lt ((((31 : Int64) * x29) + ((q31.1).toInt64))) fun x32 =>
fX9_digest_L105  n x32 (v3 + (1 : Int32)) q31.2)
set_option maxRecDepth 100000 in
set_option maxHeartbeats 4000000 in
theorem sX9_digest_L105 {g : fd_G} {hm : fd_H} {r : Int64 × fd_H} : ∀ (n : Nat) (v1 : Int64) (v3 : Int32) (h : fd_H), fX9_digest_L105  n v1 v3 h = some r → fd_A g mX9_digest fd_E (fd_rm 11 0 0) (fd_Q g (some (.long r.1)) fd_X0 (fd_mx hm r.2) 0 0) 105 [(0, .ref (g.2.2.2 + 73)), (1, .long v1), (3, .int v3)] [] fd_X0 (fd_mx hm h) 0 0 := by
  intro n
  induction n with
  | zero =>
    intro _ _ _ hf
    cases hf
  | succ n ih =>
    intro v1 v3 h hf
    rw [fX9_digest_L105] at hf
    refine fr_iload_n (pc := 105) dX9_digest_105 2 rfl rfl ?_
    refine fr_bipush (pc := 106) (v := (6 : Int32)) dX9_digest_106 (by decide) ?_
    refine fr_icmp_ge (pc := 108) 191 dX9_digest_108 (by decide) (fun c1 => ?_) (fun c1 => ?_)
    · have hf := fd_t c1 hf
      refine fr_aload_n (pc := 191) dX9_digest_191 0 rfl rfl ?_
      refine fr_lload_n (pc := 192) dX9_digest_192 1 rfl rfl ?_
      refine fr_iconst (pc := 193) (v := (0 : Int32)) dX9_digest_193 (by decide) ?_
      obtain ⟨q3, hc2, hf⟩ := fd_bi hf
      refine fr_callVl (pc := 194) (av := [.long v1, .int (0 : Int32)]) dX9_digest_194 yy_X9_nightDigest kw_708 (by decide) rfl rfl rfl rfl (Nat.le_of_ble_eq_true rfl) ⟨Nat.le_of_ble_eq_true rfl, Nat.le_of_ble_eq_true rfl, Nat.zero_le _, Nat.zero_le _⟩ (sX9_nightDigest hc2) ?_
      refine fr_lstore_n (pc := 197) (lv' := [(1, .long q3.1), (0, .ref (g.2.2.2 + 73)), (3, .int v3)]) dX9_digest_197 rfl (by decide) rfl ?_
      refine fr_aload_n (pc := 198) dX9_digest_198 1 rfl rfl ?_
      refine fr_lload_n (pc := 199) dX9_digest_199 0 rfl rfl ?_
      refine fr_iconst (pc := 200) (v := (5 : Int32)) dX9_digest_200 (by decide) ?_
      obtain ⟨q5, hc4, hf⟩ := fd_bi hf
      refine fr_callVl (pc := 201) (av := [.long q3.1, .int (5 : Int32)]) dX9_digest_201 yy_X9_nightDigest kw_708 (by decide) rfl rfl rfl rfl (Nat.le_of_ble_eq_true rfl) ⟨Nat.le_of_ble_eq_true rfl, Nat.le_of_ble_eq_true rfl, Nat.zero_le _, Nat.zero_le _⟩ (sX9_nightDigest hc4) ?_
      refine fr_lstore_n (pc := 204) (lv' := [(1, .long q5.1), (0, .ref (g.2.2.2 + 73)), (3, .int v3)]) dX9_digest_204 rfl (by decide) rfl ?_
      refine fr_aload_n (pc := 205) dX9_digest_205 1 rfl rfl ?_
      refine fr_lload_n (pc := 206) dX9_digest_206 0 rfl rfl ?_
      refine fr_bipush (pc := 207) (v := (20 : Int32)) dX9_digest_207 (by decide) ?_
      obtain ⟨q7, hc6, hf⟩ := fd_bi hf
      refine fr_callVl (pc := 209) (av := [.long q5.1, .int (20 : Int32)]) dX9_digest_209 yy_X9_nightDigest kw_708 (by decide) rfl rfl rfl rfl (Nat.le_of_ble_eq_true rfl) ⟨Nat.le_of_ble_eq_true rfl, Nat.le_of_ble_eq_true rfl, Nat.zero_le _, Nat.zero_le _⟩ (sX9_nightDigest hc6) ?_
      refine fr_lstore_n (pc := 212) (lv' := [(1, .long q7.1), (0, .ref (g.2.2.2 + 73)), (3, .int v3)]) dX9_digest_212 rfl (by decide) rfl ?_
      refine fr_aload_n (pc := 213) dX9_digest_213 1 rfl rfl ?_
      refine fr_lload_n (pc := 214) dX9_digest_214 0 rfl rfl ?_
      refine fr_bipush (pc := 215) (v := (39 : Int32)) dX9_digest_215 (by decide) ?_
      obtain ⟨q9, hc8, hf⟩ := fd_bi hf
      refine fr_callVl (pc := 217) (av := [.long q7.1, .int (39 : Int32)]) dX9_digest_217 yy_X9_nightDigest kw_708 (by decide) rfl rfl rfl rfl (Nat.le_of_ble_eq_true rfl) ⟨Nat.le_of_ble_eq_true rfl, Nat.le_of_ble_eq_true rfl, Nat.zero_le _, Nat.zero_le _⟩ (sX9_nightDigest hc8) ?_
      refine fr_lstore_n (pc := 220) (lv' := [(1, .long q9.1), (0, .ref (g.2.2.2 + 73)), (3, .int v3)]) dX9_digest_220 rfl (by decide) rfl ?_
      refine fr_ldc2 (pc := 221) (v := (31 : Int64)) dX9_digest_221 kw_675 ?_
      refine fr_lload_n (pc := 224) dX9_digest_224 0 rfl rfl ?_
      refine fr_lmul (pc := 225) dX9_digest_225 ?_
      refine fr_aload_n (pc := 226) dX9_digest_226 1 rfl rfl ?_
      obtain ⟨q11, hc10, hf⟩ := fd_bi hf
      refine fr_callVi (pc := 227) (av := []) dX9_digest_227 yy_X9_neverNow kw_646 (by decide) rfl rfl rfl rfl (Nat.le_of_ble_eq_true rfl) ⟨Nat.le_of_ble_eq_true rfl, Nat.le_of_ble_eq_true rfl, Nat.zero_le _, Nat.zero_le _⟩ (sX9_neverNow hc10) ?_
      refine fr_i2l (pc := 230) dX9_digest_230 ?_
      refine fr_ladd (pc := 231) dX9_digest_231 ?_
      obtain ⟨x12, ex12, hf⟩ := fd_lt_e hf
      refine fr_nml ex12 ?_
      refine fr_lstore_n (pc := 232) (lv' := [(1, .long x12), (0, .ref (g.2.2.2 + 73)), (3, .int v3)]) dX9_digest_232 rfl (by decide) rfl ?_
      refine fr_ldc2 (pc := 233) (v := (31 : Int64)) dX9_digest_233 kw_675 ?_
      refine fr_lload_n (pc := 236) dX9_digest_236 0 rfl rfl ?_
      refine fr_lmul (pc := 237) dX9_digest_237 ?_
      refine fr_aload_n (pc := 238) dX9_digest_238 1 rfl rfl ?_
      obtain ⟨q14, hc13, hf⟩ := fd_bi hf
      refine fr_callVi (pc := 239) (av := []) dX9_digest_239 yy_X9_carriedNow kw_612 (by decide) rfl rfl rfl rfl (Nat.le_of_ble_eq_true rfl) ⟨Nat.le_of_ble_eq_true rfl, Nat.le_of_ble_eq_true rfl, Nat.zero_le _, Nat.zero_le _⟩ (sX9_carriedNow hc13) ?_
      refine fr_i2l (pc := 242) dX9_digest_242 ?_
      refine fr_ladd (pc := 243) dX9_digest_243 ?_
      obtain ⟨x15, ex15, hf⟩ := fd_lt_e hf
      refine fr_nml ex15 ?_
      refine fr_lstore_n (pc := 244) (lv' := [(1, .long x15), (0, .ref (g.2.2.2 + 73)), (3, .int v3)]) dX9_digest_244 rfl (by decide) rfl ?_
      refine fr_ldc2 (pc := 245) (v := (31 : Int64)) dX9_digest_245 kw_675 ?_
      refine fr_lload_n (pc := 248) dX9_digest_248 0 rfl rfl ?_
      refine fr_lmul (pc := 249) dX9_digest_249 ?_
      refine fr_aload_n (pc := 250) dX9_digest_250 1 rfl rfl ?_
      refine fr_bipush (pc := 251) (v := (7 : Int32)) dX9_digest_251 (by decide) ?_
      refine fr_iconst (pc := 253) (v := (-1 : Int32)) dX9_digest_253 (by decide) ?_
      obtain ⟨q17, hc16, hf⟩ := fd_bi hf
      refine fr_callVi (pc := 254) (av := [.int (7 : Int32), .int (-1 : Int32)]) dX9_digest_254 yy_X9_yearOf kw_626 (by decide) rfl rfl rfl rfl (Nat.le_of_ble_eq_true rfl) ⟨Nat.le_of_ble_eq_true rfl, Nat.le_of_ble_eq_true rfl, Nat.zero_le _, Nat.zero_le _⟩ (sX9_yearOf hc16) ?_
      refine fr_i2l (pc := 257) dX9_digest_257 ?_
      refine fr_ladd (pc := 258) dX9_digest_258 ?_
      exact vm_lretW (x := (((31 : Int64) * x15) + ((q17.1).toInt64))) (pc := 259) dX9_digest_259 rfl hf
    · have hf := fd_f c1 hf
      refine fr_ldc2 (pc := 111) (v := (31 : Int64)) dX9_digest_111 kw_675 ?_
      refine fr_lload_n (pc := 114) dX9_digest_114 1 rfl rfl ?_
      refine fr_lmul (pc := 115) dX9_digest_115 ?_
      refine fr_aload_n (pc := 116) dX9_digest_116 0 rfl rfl ?_
      refine fr_iload_n (pc := 117) dX9_digest_117 2 rfl rfl ?_
      refine fr_iconst (pc := 118) (v := (5 : Int32)) dX9_digest_118 (by decide) ?_
      refine fr_iconst (pc := 119) (v := (0 : Int32)) dX9_digest_119 (by decide) ?_
      obtain ⟨q19, hc18, hf⟩ := fd_bi hf
      refine fr_callVi (pc := 120) (av := [.int v3, .int (5 : Int32), .int (0 : Int32)]) dX9_digest_120 yy_X9_owesOf kw_650 (by decide) rfl rfl rfl rfl (Nat.le_of_ble_eq_true rfl) ⟨Nat.le_of_ble_eq_true rfl, Nat.le_of_ble_eq_true rfl, Nat.zero_le _, Nat.zero_le _⟩ (sX9_owesOf hc18) ?_
      refine fr_i2l (pc := 123) dX9_digest_123 ?_
      refine fr_ladd (pc := 124) dX9_digest_124 ?_
      obtain ⟨x20, ex20, hf⟩ := fd_lt_e hf
      refine fr_nml ex20 ?_
      refine fr_lstore_n (pc := 125) (lv' := [(1, .long x20), (0, .ref (g.2.2.2 + 73)), (3, .int v3)]) dX9_digest_125 rfl (by decide) rfl ?_
      refine fr_ldc2 (pc := 126) (v := (31 : Int64)) dX9_digest_126 kw_675 ?_
      refine fr_lload_n (pc := 129) dX9_digest_129 0 rfl rfl ?_
      refine fr_lmul (pc := 130) dX9_digest_130 ?_
      refine fr_aload_n (pc := 131) dX9_digest_131 1 rfl rfl ?_
      refine fr_iload_n (pc := 132) dX9_digest_132 2 rfl rfl ?_
      refine fr_iconst (pc := 133) (v := (5 : Int32)) dX9_digest_133 (by decide) ?_
      refine fr_iconst (pc := 134) (v := (1 : Int32)) dX9_digest_134 (by decide) ?_
      obtain ⟨q22, hc21, hf⟩ := fd_bi hf
      refine fr_callVi (pc := 135) (av := [.int v3, .int (5 : Int32), .int (1 : Int32)]) dX9_digest_135 yy_X9_owesOf kw_650 (by decide) rfl rfl rfl rfl (Nat.le_of_ble_eq_true rfl) ⟨Nat.le_of_ble_eq_true rfl, Nat.le_of_ble_eq_true rfl, Nat.zero_le _, Nat.zero_le _⟩ (sX9_owesOf hc21) ?_
      refine fr_i2l (pc := 138) dX9_digest_138 ?_
      refine fr_ladd (pc := 139) dX9_digest_139 ?_
      obtain ⟨x23, ex23, hf⟩ := fd_lt_e hf
      refine fr_nml ex23 ?_
      refine fr_lstore_n (pc := 140) (lv' := [(1, .long x23), (0, .ref (g.2.2.2 + 73)), (3, .int v3)]) dX9_digest_140 rfl (by decide) rfl ?_
      refine fr_ldc2 (pc := 141) (v := (31 : Int64)) dX9_digest_141 kw_675 ?_
      refine fr_lload_n (pc := 144) dX9_digest_144 0 rfl rfl ?_
      refine fr_lmul (pc := 145) dX9_digest_145 ?_
      refine fr_aload_n (pc := 146) dX9_digest_146 1 rfl rfl ?_
      refine fr_iload_n (pc := 147) dX9_digest_147 2 rfl rfl ?_
      refine fr_iconst (pc := 148) (v := (0 : Int32)) dX9_digest_148 (by decide) ?_
      obtain ⟨q25, hc24, hf⟩ := fd_bi hf
      refine fr_callVi (pc := 149) (av := [.int v3, .int (0 : Int32)]) dX9_digest_149 yy_X9_freeOf kw_658 (by decide) rfl rfl rfl rfl (Nat.le_of_ble_eq_true rfl) ⟨Nat.le_of_ble_eq_true rfl, Nat.le_of_ble_eq_true rfl, Nat.zero_le _, Nat.zero_le _⟩ (sX9_freeOf hc24) ?_
      refine fr_i2l (pc := 152) dX9_digest_152 ?_
      refine fr_ladd (pc := 153) dX9_digest_153 ?_
      obtain ⟨x26, ex26, hf⟩ := fd_lt_e hf
      refine fr_nml ex26 ?_
      refine fr_lstore_n (pc := 154) (lv' := [(1, .long x26), (0, .ref (g.2.2.2 + 73)), (3, .int v3)]) dX9_digest_154 rfl (by decide) rfl ?_
      refine fr_ldc2 (pc := 155) (v := (31 : Int64)) dX9_digest_155 kw_675 ?_
      refine fr_lload_n (pc := 158) dX9_digest_158 0 rfl rfl ?_
      refine fr_lmul (pc := 159) dX9_digest_159 ?_
      refine fr_aload_n (pc := 160) dX9_digest_160 1 rfl rfl ?_
      refine fr_iload_n (pc := 161) dX9_digest_161 2 rfl rfl ?_
      refine fr_iconst (pc := 162) (v := (5 : Int32)) dX9_digest_162 (by decide) ?_
      refine fr_iconst (pc := 163) (v := (-1 : Int32)) dX9_digest_163 (by decide) ?_
      obtain ⟨q28, hc27, hf⟩ := fd_bi hf
      refine fr_callVi (pc := 164) (av := [.int v3, .int (5 : Int32), .int (-1 : Int32)]) dX9_digest_164 yy_X9_carry kw_712 (by decide) rfl rfl rfl rfl (Nat.le_of_ble_eq_true rfl) ⟨Nat.le_of_ble_eq_true rfl, Nat.le_of_ble_eq_true rfl, Nat.zero_le _, Nat.zero_le _⟩ (sX9_carry hc27) ?_
      refine fr_i2l (pc := 167) dX9_digest_167 ?_
      refine fr_ladd (pc := 168) dX9_digest_168 ?_
      obtain ⟨x29, ex29, hf⟩ := fd_lt_e hf
      refine fr_nml ex29 ?_
      refine fr_lstore_n (pc := 169) (lv' := [(1, .long x29), (0, .ref (g.2.2.2 + 73)), (3, .int v3)]) dX9_digest_169 rfl (by decide) rfl ?_
      refine fr_ldc2 (pc := 170) (v := (31 : Int64)) dX9_digest_170 kw_675 ?_
      refine fr_lload_n (pc := 173) dX9_digest_173 0 rfl rfl ?_
      refine fr_lmul (pc := 174) dX9_digest_174 ?_
      refine fr_aload_n (pc := 175) dX9_digest_175 1 rfl rfl ?_
      refine fr_iload_n (pc := 176) dX9_digest_176 2 rfl rfl ?_
      refine fr_iconst (pc := 177) (v := (5 : Int32)) dX9_digest_177 (by decide) ?_
      refine fr_iconst (pc := 178) (v := (0 : Int32)) dX9_digest_178 (by decide) ?_
      obtain ⟨q31, hc30, hf⟩ := fd_bi hf
      refine fr_callVi (pc := 179) (av := [.int v3, .int (5 : Int32), .int (0 : Int32)]) dX9_digest_179 yy_X9_carry kw_712 (by decide) rfl rfl rfl rfl (Nat.le_of_ble_eq_true rfl) ⟨Nat.le_of_ble_eq_true rfl, Nat.le_of_ble_eq_true rfl, Nat.zero_le _, Nat.zero_le _⟩ (sX9_carry hc30) ?_
      refine fr_i2l (pc := 182) dX9_digest_182 ?_
      refine fr_ladd (pc := 183) dX9_digest_183 ?_
      obtain ⟨x32, ex32, hf⟩ := fd_lt_e hf
      refine fr_nml ex32 ?_
      refine fr_lstore_n (pc := 184) (lv' := [(1, .long x32), (0, .ref (g.2.2.2 + 73)), (3, .int v3)]) dX9_digest_184 rfl (by decide) rfl ?_
      refine fr_iinc (pc := 185) (v := (v3 + (1 : Int32))) (lv' := [(3, .int (v3 + (1 : Int32))), (1, .long x32), (0, .ref (g.2.2.2 + 73))]) dX9_digest_185 2 rfl rfl (by decide) rfl ?_
      refine fr_goto (pc := 188) 105 dX9_digest_188 (by decide) ?_
      refine fr_loc (lv' := [(0, .ref (g.2.2.2 + 73)), (1, .long x32), (3, .int (v3 + (1 : Int32)))]) [2, 1, 0] rfl ?_
      exact ih _ _ _ hf
def fX9_digest_L82  : Nat → Int64 → Int32 → fd_H → Option (Int64 × fd_H)
  | 0 => fun _ _ _ => none
  | n + 1 => fun v1 v3 h =>
if (h.1 73 7) ≤ v3 then (
fX9_digest_L105  fd_fu v1 (0 : Int32) h)
else (
(fX9_debtDigest v1 v3 h).bind fun q3 =>
fX9_digest_L82  n q3.1 (v3 + (1 : Int32)) q3.2)
set_option maxRecDepth 100000 in
set_option maxHeartbeats 4000000 in
theorem sX9_digest_L82 {g : fd_G} {hm : fd_H} {r : Int64 × fd_H} : ∀ (n : Nat) (v1 : Int64) (v3 : Int32) (h : fd_H), fX9_digest_L82  n v1 v3 h = some r → fd_A g mX9_digest fd_E (fd_rm 11 0 0) (fd_Q g (some (.long r.1)) fd_X0 (fd_mx hm r.2) 0 0) 82 [(0, .ref (g.2.2.2 + 73)), (1, .long v1), (3, .int v3)] [] fd_X0 (fd_mx hm h) 0 0 := by
  intro n
  induction n with
  | zero =>
    intro _ _ _ hf
    cases hf
  | succ n ih =>
    intro v1 v3 h hf
    rw [fX9_digest_L82] at hf
    refine fr_iload_n (pc := 82) dX9_digest_82 2 rfl rfl ?_
    refine fr_aload_n (pc := 83) dX9_digest_83 0 rfl rfl ?_
    refine vm_getI (pc := 84) dX9_digest_84 fl_X9_108 (by decide) (by decide) rfl rfl ?_
    refine fr_icmp_ge (pc := 87) 103 dX9_digest_87 (by decide) (fun c1 => ?_) (fun c1 => ?_)
    · have hf := fd_t c1 hf
      refine fr_iconst (pc := 103) (v := (0 : Int32)) dX9_digest_103 (by decide) ?_
      refine fr_istore_n (pc := 104) (lv' := [(3, .int (0 : Int32)), (0, .ref (g.2.2.2 + 73)), (1, .long v1)]) dX9_digest_104 rfl (by decide) rfl ?_
      refine fr_loc (lv' := [(0, .ref (g.2.2.2 + 73)), (1, .long v1), (3, .int (0 : Int32))]) [1, 2, 0] rfl ?_
      exact sX9_digest_L105 _  _ _ _ hf
    · have hf := fd_f c1 hf
      refine fr_aload_n (pc := 90) dX9_digest_90 0 rfl rfl ?_
      refine fr_lload_n (pc := 91) dX9_digest_91 1 rfl rfl ?_
      refine fr_iload_n (pc := 92) dX9_digest_92 2 rfl rfl ?_
      obtain ⟨q3, hc2, hf⟩ := fd_bi hf
      refine fr_callVl (pc := 93) (av := [.long v1, .int v3]) dX9_digest_93 yy_X9_debtDigest kw_704 (by decide) rfl rfl rfl rfl (Nat.le_of_ble_eq_true rfl) ⟨Nat.le_of_ble_eq_true rfl, Nat.le_of_ble_eq_true rfl, Nat.zero_le _, Nat.zero_le _⟩ (sX9_debtDigest hc2) ?_
      refine fr_lstore_n (pc := 96) (lv' := [(1, .long q3.1), (0, .ref (g.2.2.2 + 73)), (3, .int v3)]) dX9_digest_96 rfl (by decide) rfl ?_
      refine fr_iinc (pc := 97) (v := (v3 + (1 : Int32))) (lv' := [(3, .int (v3 + (1 : Int32))), (1, .long q3.1), (0, .ref (g.2.2.2 + 73))]) dX9_digest_97 2 rfl rfl (by decide) rfl ?_
      refine fr_goto (pc := 100) 82 dX9_digest_100 (by decide) ?_
      refine fr_loc (lv' := [(0, .ref (g.2.2.2 + 73)), (1, .long q3.1), (3, .int (v3 + (1 : Int32)))]) [2, 1, 0] rfl ?_
      exact ih _ _ _ hf
def fX9_digest_L59  : Nat → Int64 → Int32 → fd_H → Option (Int64 × fd_H)
  | 0 => fun _ _ _ => none
  | n + 1 => fun v1 v3 h =>
if (h.1 73 2) ≤ v3 then (
fX9_digest_L82  fd_fu v1 (0 : Int32) h)
else (
(fX9_placeDigest v1 v3 h).bind fun q3 =>
fX9_digest_L59  n q3.1 (v3 + (1 : Int32)) q3.2)
set_option maxRecDepth 100000 in
set_option maxHeartbeats 4000000 in
theorem sX9_digest_L59 {g : fd_G} {hm : fd_H} {r : Int64 × fd_H} : ∀ (n : Nat) (v1 : Int64) (v3 : Int32) (h : fd_H), fX9_digest_L59  n v1 v3 h = some r → fd_A g mX9_digest fd_E (fd_rm 11 0 0) (fd_Q g (some (.long r.1)) fd_X0 (fd_mx hm r.2) 0 0) 59 [(0, .ref (g.2.2.2 + 73)), (1, .long v1), (3, .int v3)] [] fd_X0 (fd_mx hm h) 0 0 := by
  intro n
  induction n with
  | zero =>
    intro _ _ _ hf
    cases hf
  | succ n ih =>
    intro v1 v3 h hf
    rw [fX9_digest_L59] at hf
    refine fr_iload_n (pc := 59) dX9_digest_59 2 rfl rfl ?_
    refine fr_aload_n (pc := 60) dX9_digest_60 0 rfl rfl ?_
    refine vm_getI (pc := 61) dX9_digest_61 fl_X9_105 (by decide) (by decide) rfl rfl ?_
    refine fr_icmp_ge (pc := 64) 80 dX9_digest_64 (by decide) (fun c1 => ?_) (fun c1 => ?_)
    · have hf := fd_t c1 hf
      refine fr_iconst (pc := 80) (v := (0 : Int32)) dX9_digest_80 (by decide) ?_
      refine fr_istore_n (pc := 81) (lv' := [(3, .int (0 : Int32)), (0, .ref (g.2.2.2 + 73)), (1, .long v1)]) dX9_digest_81 rfl (by decide) rfl ?_
      refine fr_loc (lv' := [(0, .ref (g.2.2.2 + 73)), (1, .long v1), (3, .int (0 : Int32))]) [1, 2, 0] rfl ?_
      exact sX9_digest_L82 _  _ _ _ hf
    · have hf := fd_f c1 hf
      refine fr_aload_n (pc := 67) dX9_digest_67 0 rfl rfl ?_
      refine fr_lload_n (pc := 68) dX9_digest_68 1 rfl rfl ?_
      refine fr_iload_n (pc := 69) dX9_digest_69 2 rfl rfl ?_
      obtain ⟨q3, hc2, hf⟩ := fd_bi hf
      refine fr_callVl (pc := 70) (av := [.long v1, .int v3]) dX9_digest_70 yy_X9_placeDigest kw_700 (by decide) rfl rfl rfl rfl (Nat.le_of_ble_eq_true rfl) ⟨Nat.le_of_ble_eq_true rfl, Nat.le_of_ble_eq_true rfl, Nat.zero_le _, Nat.zero_le _⟩ (sX9_placeDigest hc2) ?_
      refine fr_lstore_n (pc := 73) (lv' := [(1, .long q3.1), (0, .ref (g.2.2.2 + 73)), (3, .int v3)]) dX9_digest_73 rfl (by decide) rfl ?_
      refine fr_iinc (pc := 74) (v := (v3 + (1 : Int32))) (lv' := [(3, .int (v3 + (1 : Int32))), (1, .long q3.1), (0, .ref (g.2.2.2 + 73))]) dX9_digest_74 2 rfl rfl (by decide) rfl ?_
      refine fr_goto (pc := 77) 59 dX9_digest_77 (by decide) ?_
      refine fr_loc (lv' := [(0, .ref (g.2.2.2 + 73)), (1, .long q3.1), (3, .int (v3 + (1 : Int32)))]) [2, 1, 0] rfl ?_
      exact ih _ _ _ hf
def fX9_digest_L33  : Nat → Int64 → Int32 → fd_H → Option (Int64 × fd_H)
  | 0 => fun _ _ _ => none
  | n + 1 => fun v1 v3 h =>
if (3 : Int32) ≤ v3 then (
fX9_digest_L59  fd_fu v1 (0 : Int32) h)
else (
(fX9_faultOf v3 h).bind fun q3 =>
fd_lt ((((31 : Int64) * v1) + ((q3.1).toInt64))) fun x4 =>
fX9_digest_L33  n x4 (v3 + (1 : Int32)) q3.2)
set_option maxRecDepth 100000 in
set_option maxHeartbeats 4000000 in
theorem sX9_digest_L33 {g : fd_G} {hm : fd_H} {r : Int64 × fd_H} : ∀ (n : Nat) (v1 : Int64) (v3 : Int32) (h : fd_H), fX9_digest_L33  n v1 v3 h = some r → fd_A g mX9_digest fd_E (fd_rm 11 0 0) (fd_Q g (some (.long r.1)) fd_X0 (fd_mx hm r.2) 0 0) 33 [(0, .ref (g.2.2.2 + 73)), (1, .long v1), (3, .int v3)] [] fd_X0 (fd_mx hm h) 0 0 := by
  intro n
  induction n with
  | zero =>
    intro _ _ _ hf
    cases hf
  | succ n ih =>
    intro v1 v3 h hf
    rw [fX9_digest_L33] at hf
    refine fr_iload_n (pc := 33) dX9_digest_33 2 rfl rfl ?_
    refine fr_iconst (pc := 34) (v := (3 : Int32)) dX9_digest_34 (by decide) ?_
    refine fr_icmp_ge (pc := 35) 57 dX9_digest_35 (by decide) (fun c1 => ?_) (fun c1 => ?_)
    · have hf := fd_t c1 hf
      refine fr_iconst (pc := 57) (v := (0 : Int32)) dX9_digest_57 (by decide) ?_
      refine fr_istore_n (pc := 58) (lv' := [(3, .int (0 : Int32)), (0, .ref (g.2.2.2 + 73)), (1, .long v1)]) dX9_digest_58 rfl (by decide) rfl ?_
      refine fr_loc (lv' := [(0, .ref (g.2.2.2 + 73)), (1, .long v1), (3, .int (0 : Int32))]) [1, 2, 0] rfl ?_
      exact sX9_digest_L59 _  _ _ _ hf
    · have hf := fd_f c1 hf
      refine fr_ldc2 (pc := 38) (v := (31 : Int64)) dX9_digest_38 kw_675 ?_
      refine fr_lload_n (pc := 41) dX9_digest_41 1 rfl rfl ?_
      refine fr_lmul (pc := 42) dX9_digest_42 ?_
      refine fr_aload_n (pc := 43) dX9_digest_43 0 rfl rfl ?_
      refine fr_iload_n (pc := 44) dX9_digest_44 2 rfl rfl ?_
      obtain ⟨q3, hc2, hf⟩ := fd_bi hf
      refine fr_callVi (pc := 45) (av := [.int v3]) dX9_digest_45 yy_X9_faultOf kw_506 (by decide) rfl rfl rfl rfl (Nat.le_of_ble_eq_true rfl) ⟨Nat.le_of_ble_eq_true rfl, Nat.le_of_ble_eq_true rfl, Nat.zero_le _, Nat.zero_le _⟩ (sX9_faultOf hc2) ?_
      refine fr_i2l (pc := 48) dX9_digest_48 ?_
      refine fr_ladd (pc := 49) dX9_digest_49 ?_
      obtain ⟨x4, ex4, hf⟩ := fd_lt_e hf
      refine fr_nml ex4 ?_
      refine fr_lstore_n (pc := 50) (lv' := [(1, .long x4), (0, .ref (g.2.2.2 + 73)), (3, .int v3)]) dX9_digest_50 rfl (by decide) rfl ?_
      refine fr_iinc (pc := 51) (v := (v3 + (1 : Int32))) (lv' := [(3, .int (v3 + (1 : Int32))), (1, .long x4), (0, .ref (g.2.2.2 + 73))]) dX9_digest_51 2 rfl rfl (by decide) rfl ?_
      refine fr_goto (pc := 54) 33 dX9_digest_54 (by decide) ?_
      refine fr_loc (lv' := [(0, .ref (g.2.2.2 + 73)), (1, .long x4), (3, .int (v3 + (1 : Int32)))]) [2, 1, 0] rfl ?_
      exact ih _ _ _ hf
def fX9_digest_L6  : Nat → Int64 → Int32 → fd_H → Option (Int64 × fd_H)
  | 0 => fun _ _ _ => none
  | n + 1 => fun v1 v3 h =>
if (8 : Int32) ≤ v3 then (
fX9_digest_L33  fd_fu v1 (0 : Int32) h)
else (
(fX9_count v3 h).bind fun q3 =>
fd_lt ((((31 : Int64) * v1) + ((q3.1).toInt64))) fun x4 =>
fX9_digest_L6  n x4 (v3 + (1 : Int32)) q3.2)
set_option maxRecDepth 100000 in
set_option maxHeartbeats 4000000 in
theorem sX9_digest_L6 {g : fd_G} {hm : fd_H} {r : Int64 × fd_H} : ∀ (n : Nat) (v1 : Int64) (v3 : Int32) (h : fd_H), fX9_digest_L6  n v1 v3 h = some r → fd_A g mX9_digest fd_E (fd_rm 11 0 0) (fd_Q g (some (.long r.1)) fd_X0 (fd_mx hm r.2) 0 0) 6 [(0, .ref (g.2.2.2 + 73)), (1, .long v1), (3, .int v3)] [] fd_X0 (fd_mx hm h) 0 0 := by
  intro n
  induction n with
  | zero =>
    intro _ _ _ hf
    cases hf
  | succ n ih =>
    intro v1 v3 h hf
    rw [fX9_digest_L6] at hf
    refine fr_iload_n (pc := 6) dX9_digest_6 2 rfl rfl ?_
    refine fr_bipush (pc := 7) (v := (8 : Int32)) dX9_digest_7 (by decide) ?_
    refine fr_icmp_ge (pc := 9) 31 dX9_digest_9 (by decide) (fun c1 => ?_) (fun c1 => ?_)
    · have hf := fd_t c1 hf
      refine fr_iconst (pc := 31) (v := (0 : Int32)) dX9_digest_31 (by decide) ?_
      refine fr_istore_n (pc := 32) (lv' := [(3, .int (0 : Int32)), (0, .ref (g.2.2.2 + 73)), (1, .long v1)]) dX9_digest_32 rfl (by decide) rfl ?_
      refine fr_loc (lv' := [(0, .ref (g.2.2.2 + 73)), (1, .long v1), (3, .int (0 : Int32))]) [1, 2, 0] rfl ?_
      exact sX9_digest_L33 _  _ _ _ hf
    · have hf := fd_f c1 hf
      refine fr_ldc2 (pc := 12) (v := (31 : Int64)) dX9_digest_12 kw_675 ?_
      refine fr_lload_n (pc := 15) dX9_digest_15 1 rfl rfl ?_
      refine fr_lmul (pc := 16) dX9_digest_16 ?_
      refine fr_aload_n (pc := 17) dX9_digest_17 0 rfl rfl ?_
      refine fr_iload_n (pc := 18) dX9_digest_18 2 rfl rfl ?_
      obtain ⟨q3, hc2, hf⟩ := fd_bi hf
      refine fr_callVi (pc := 19) (av := [.int v3]) dX9_digest_19 yy_X9_count kw_696 (by decide) rfl rfl rfl rfl (Nat.le_of_ble_eq_true rfl) ⟨Nat.le_of_ble_eq_true rfl, Nat.le_of_ble_eq_true rfl, Nat.zero_le _, Nat.zero_le _⟩ (sX9_count hc2) ?_
      refine fr_i2l (pc := 22) dX9_digest_22 ?_
      refine fr_ladd (pc := 23) dX9_digest_23 ?_
      obtain ⟨x4, ex4, hf⟩ := fd_lt_e hf
      refine fr_nml ex4 ?_
      refine fr_lstore_n (pc := 24) (lv' := [(1, .long x4), (0, .ref (g.2.2.2 + 73)), (3, .int v3)]) dX9_digest_24 rfl (by decide) rfl ?_
      refine fr_iinc (pc := 25) (v := (v3 + (1 : Int32))) (lv' := [(3, .int (v3 + (1 : Int32))), (1, .long x4), (0, .ref (g.2.2.2 + 73))]) dX9_digest_25 2 rfl rfl (by decide) rfl ?_
      refine fr_goto (pc := 28) 6 dX9_digest_28 (by decide) ?_
      refine fr_loc (lv' := [(0, .ref (g.2.2.2 + 73)), (1, .long x4), (3, .int (v3 + (1 : Int32)))]) [2, 1, 0] rfl ?_
      exact ih _ _ _ hf
def fX9_digest  (h : fd_H) : Option (Int64 × fd_H) :=
fX9_digest_L6  fd_fu (17 : Int64) (0 : Int32) h
set_option maxRecDepth 100000 in
set_option maxHeartbeats 4000000 in
theorem sX9_digest {g : fd_G} {hm : fd_H} {r : Int64 × fd_H} {h : fd_H} (hf : fX9_digest  h = some r) : fd_S g mX9_digest 11 [.ref (g.2.2.2 + 73)] fd_X0 (fd_mx hm h) (some (.long r.1)) fd_X0 (fd_mx hm r.2) 0 0 := by
  refine fd_S.of (by decide +kernel) (Nat.le_of_ble_eq_true rfl) ?_
  unfold fX9_digest at hf
  refine fr_loc (lv' := [(0, .ref (g.2.2.2 + 73))]) [0] rfl ?_
  refine fr_ldc2 (pc := 0) (v := (17 : Int64)) dX9_digest_0 kw_692 ?_
  refine fr_lstore_n (pc := 3) (lv' := [(1, .long (17 : Int64)), (0, .ref (g.2.2.2 + 73))]) dX9_digest_3 rfl (by decide) rfl ?_
  refine fr_iconst (pc := 4) (v := (0 : Int32)) dX9_digest_4 (by decide) ?_
  refine fr_istore_n (pc := 5) (lv' := [(3, .int (0 : Int32)), (1, .long (17 : Int64)), (0, .ref (g.2.2.2 + 73))]) dX9_digest_5 rfl (by decide) rfl ?_
  refine fr_loc (lv' := [(0, .ref (g.2.2.2 + 73)), (1, .long (17 : Int64)), (3, .int (0 : Int32))]) [2, 1, 0] rfl ?_
  exact sX9_digest_L6 _  _ _ _ hf
