theorem dX9_carryBy_0 : decode cX9_carryBy 0 = .ok (.aload_n 0, 1) := by decide +kernel
theorem dX9_carryBy_1 : decode cX9_carryBy 1 = .ok (.invokevirtual 168, 3) := by decide +kernel
theorem dX9_carryBy_4 : decode cX9_carryBy 4 = .ok (.aload_n 0, 1) := by decide +kernel
theorem dX9_carryBy_5 : decode cX9_carryBy 5 = .ok (.iload_n 1, 1) := by decide +kernel
theorem dX9_carryBy_6 : decode cX9_carryBy 6 = .ok (.iload_n 2, 1) := by decide +kernel
theorem dX9_carryBy_7 : decode cX9_carryBy 7 = .ok (.iconst (-1), 1) := by decide +kernel
theorem dX9_carryBy_8 : decode cX9_carryBy 8 = .ok (.iconst (-1), 1) := by decide +kernel
theorem dX9_carryBy_9 : decode cX9_carryBy 9 = .ok (.iconst (-1), 1) := by decide +kernel
theorem dX9_carryBy_10 : decode cX9_carryBy 10 = .ok (.invokevirtual 225, 3) := by decide +kernel
theorem dX9_carryBy_13 : decode cX9_carryBy 13 = .ok (.ifCond .eq 5, 3) := by decide +kernel
theorem dX9_carryBy_16 : decode cX9_carryBy 16 = .ok (.iconst 0, 1) := by decide +kernel
theorem dX9_carryBy_17 : decode cX9_carryBy 17 = .ok (.ireturn, 1) := by decide +kernel
theorem dX9_carryBy_18 : decode cX9_carryBy 18 = .ok (.iconst 0, 1) := by decide +kernel
theorem dX9_carryBy_19 : decode cX9_carryBy 19 = .ok (.istore_n 3, 1) := by decide +kernel
theorem dX9_carryBy_20 : decode cX9_carryBy 20 = .ok (.iload_n 3, 1) := by decide +kernel
theorem dX9_carryBy_21 : decode cX9_carryBy 21 = .ok (.aload_n 0, 1) := by decide +kernel
theorem dX9_carryBy_22 : decode cX9_carryBy 22 = .ok (.getfield 105, 3) := by decide +kernel
theorem dX9_carryBy_25 : decode cX9_carryBy 25 = .ok (.if_icmp .ge 23, 3) := by decide +kernel
theorem dX9_carryBy_28 : decode cX9_carryBy 28 = .ok (.aload_n 0, 1) := by decide +kernel
theorem dX9_carryBy_29 : decode cX9_carryBy 29 = .ok (.iload_n 1, 1) := by decide +kernel
theorem dX9_carryBy_30 : decode cX9_carryBy 30 = .ok (.iload_n 2, 1) := by decide +kernel
theorem dX9_carryBy_31 : decode cX9_carryBy 31 = .ok (.iload_n 3, 1) := by decide +kernel
theorem dX9_carryBy_32 : decode cX9_carryBy 32 = .ok (.iconst (-1), 1) := by decide +kernel
theorem dX9_carryBy_33 : decode cX9_carryBy 33 = .ok (.iconst (-1), 1) := by decide +kernel
theorem dX9_carryBy_34 : decode cX9_carryBy 34 = .ok (.invokevirtual 225, 3) := by decide +kernel
theorem dX9_carryBy_37 : decode cX9_carryBy 37 = .ok (.ifCond .eq 5, 3) := by decide +kernel
theorem dX9_carryBy_40 : decode cX9_carryBy 40 = .ok (.iconst 1, 1) := by decide +kernel
theorem dX9_carryBy_41 : decode cX9_carryBy 41 = .ok (.ireturn, 1) := by decide +kernel
theorem dX9_carryBy_42 : decode cX9_carryBy 42 = .ok (.iinc 3 1, 3) := by decide +kernel
theorem dX9_carryBy_45 : decode cX9_carryBy 45 = .ok (.goto (-25), 3) := by decide +kernel
theorem dX9_carryBy_48 : decode cX9_carryBy 48 = .ok (.iconst 0, 1) := by decide +kernel
theorem dX9_carryBy_49 : decode cX9_carryBy 49 = .ok (.istore_n 3, 1) := by decide +kernel
theorem dX9_carryBy_50 : decode cX9_carryBy 50 = .ok (.iload_n 3, 1) := by decide +kernel
theorem dX9_carryBy_51 : decode cX9_carryBy 51 = .ok (.aload_n 0, 1) := by decide +kernel
theorem dX9_carryBy_52 : decode cX9_carryBy 52 = .ok (.getfield 105, 3) := by decide +kernel
theorem dX9_carryBy_55 : decode cX9_carryBy 55 = .ok (.if_icmp .ge 44, 3) := by decide +kernel
theorem dX9_carryBy_58 : decode cX9_carryBy 58 = .ok (.iload_n 3, 1) := by decide +kernel
theorem dX9_carryBy_59 : decode cX9_carryBy 59 = .ok (.iconst 1, 1) := by decide +kernel
theorem dX9_carryBy_60 : decode cX9_carryBy 60 = .ok (.iadd, 1) := by decide +kernel
theorem dX9_carryBy_61 : decode cX9_carryBy 61 = .ok (.istore 4, 2) := by decide +kernel
theorem dX9_carryBy_63 : decode cX9_carryBy 63 = .ok (.iload 4, 2) := by decide +kernel
theorem dX9_carryBy_65 : decode cX9_carryBy 65 = .ok (.aload_n 0, 1) := by decide +kernel
theorem dX9_carryBy_66 : decode cX9_carryBy 66 = .ok (.getfield 105, 3) := by decide +kernel
theorem dX9_carryBy_69 : decode cX9_carryBy 69 = .ok (.if_icmp .ge 24, 3) := by decide +kernel
theorem dX9_carryBy_72 : decode cX9_carryBy 72 = .ok (.aload_n 0, 1) := by decide +kernel
theorem dX9_carryBy_73 : decode cX9_carryBy 73 = .ok (.iload_n 1, 1) := by decide +kernel
theorem dX9_carryBy_74 : decode cX9_carryBy 74 = .ok (.iload_n 2, 1) := by decide +kernel
theorem dX9_carryBy_75 : decode cX9_carryBy 75 = .ok (.iload_n 3, 1) := by decide +kernel
theorem dX9_carryBy_76 : decode cX9_carryBy 76 = .ok (.iload 4, 2) := by decide +kernel
theorem dX9_carryBy_78 : decode cX9_carryBy 78 = .ok (.iconst (-1), 1) := by decide +kernel
theorem dX9_carryBy_79 : decode cX9_carryBy 79 = .ok (.invokevirtual 225, 3) := by decide +kernel
theorem dX9_carryBy_82 : decode cX9_carryBy 82 = .ok (.ifCond .eq 5, 3) := by decide +kernel
theorem dX9_carryBy_85 : decode cX9_carryBy 85 = .ok (.iconst 2, 1) := by decide +kernel
theorem dX9_carryBy_86 : decode cX9_carryBy 86 = .ok (.ireturn, 1) := by decide +kernel
theorem dX9_carryBy_87 : decode cX9_carryBy 87 = .ok (.iinc 4 1, 3) := by decide +kernel
theorem dX9_carryBy_90 : decode cX9_carryBy 90 = .ok (.goto (-27), 3) := by decide +kernel
theorem dX9_carryBy_93 : decode cX9_carryBy 93 = .ok (.iinc 3 1, 3) := by decide +kernel
theorem dX9_carryBy_96 : decode cX9_carryBy 96 = .ok (.goto (-46), 3) := by decide +kernel
theorem dX9_carryBy_99 : decode cX9_carryBy 99 = .ok (.iconst 0, 1) := by decide +kernel
theorem dX9_carryBy_100 : decode cX9_carryBy 100 = .ok (.istore_n 3, 1) := by decide +kernel
theorem dX9_carryBy_101 : decode cX9_carryBy 101 = .ok (.iload_n 3, 1) := by decide +kernel
theorem dX9_carryBy_102 : decode cX9_carryBy 102 = .ok (.aload_n 0, 1) := by decide +kernel
theorem dX9_carryBy_103 : decode cX9_carryBy 103 = .ok (.getfield 105, 3) := by decide +kernel
theorem dX9_carryBy_106 : decode cX9_carryBy 106 = .ok (.if_icmp .ge 66, 3) := by decide +kernel
theorem dX9_carryBy_109 : decode cX9_carryBy 109 = .ok (.iload_n 3, 1) := by decide +kernel
theorem dX9_carryBy_110 : decode cX9_carryBy 110 = .ok (.iconst 1, 1) := by decide +kernel
theorem dX9_carryBy_111 : decode cX9_carryBy 111 = .ok (.iadd, 1) := by decide +kernel
theorem dX9_carryBy_112 : decode cX9_carryBy 112 = .ok (.istore 4, 2) := by decide +kernel
theorem dX9_carryBy_114 : decode cX9_carryBy 114 = .ok (.iload 4, 2) := by decide +kernel
theorem dX9_carryBy_116 : decode cX9_carryBy 116 = .ok (.aload_n 0, 1) := by decide +kernel
theorem dX9_carryBy_117 : decode cX9_carryBy 117 = .ok (.getfield 105, 3) := by decide +kernel
theorem dX9_carryBy_120 : decode cX9_carryBy 120 = .ok (.if_icmp .ge 46, 3) := by decide +kernel
theorem dX9_carryBy_123 : decode cX9_carryBy 123 = .ok (.iload 4, 2) := by decide +kernel
theorem dX9_carryBy_125 : decode cX9_carryBy 125 = .ok (.iconst 1, 1) := by decide +kernel
theorem dX9_carryBy_126 : decode cX9_carryBy 126 = .ok (.iadd, 1) := by decide +kernel
theorem dX9_carryBy_127 : decode cX9_carryBy 127 = .ok (.istore 5, 2) := by decide +kernel
theorem dX9_carryBy_129 : decode cX9_carryBy 129 = .ok (.iload 5, 2) := by decide +kernel
theorem dX9_carryBy_131 : decode cX9_carryBy 131 = .ok (.aload_n 0, 1) := by decide +kernel
theorem dX9_carryBy_132 : decode cX9_carryBy 132 = .ok (.getfield 105, 3) := by decide +kernel
theorem dX9_carryBy_135 : decode cX9_carryBy 135 = .ok (.if_icmp .ge 25, 3) := by decide +kernel
theorem dX9_carryBy_138 : decode cX9_carryBy 138 = .ok (.aload_n 0, 1) := by decide +kernel
theorem dX9_carryBy_139 : decode cX9_carryBy 139 = .ok (.iload_n 1, 1) := by decide +kernel
theorem dX9_carryBy_140 : decode cX9_carryBy 140 = .ok (.iload_n 2, 1) := by decide +kernel
theorem dX9_carryBy_141 : decode cX9_carryBy 141 = .ok (.iload_n 3, 1) := by decide +kernel
theorem dX9_carryBy_142 : decode cX9_carryBy 142 = .ok (.iload 4, 2) := by decide +kernel
theorem dX9_carryBy_144 : decode cX9_carryBy 144 = .ok (.iload 5, 2) := by decide +kernel
theorem dX9_carryBy_146 : decode cX9_carryBy 146 = .ok (.invokevirtual 225, 3) := by decide +kernel
theorem dX9_carryBy_149 : decode cX9_carryBy 149 = .ok (.ifCond .eq 5, 3) := by decide +kernel
theorem dX9_carryBy_152 : decode cX9_carryBy 152 = .ok (.iconst 3, 1) := by decide +kernel
theorem dX9_carryBy_153 : decode cX9_carryBy 153 = .ok (.ireturn, 1) := by decide +kernel
theorem dX9_carryBy_154 : decode cX9_carryBy 154 = .ok (.iinc 5 1, 3) := by decide +kernel
theorem dX9_carryBy_157 : decode cX9_carryBy 157 = .ok (.goto (-28), 3) := by decide +kernel
theorem dX9_carryBy_160 : decode cX9_carryBy 160 = .ok (.iinc 4 1, 3) := by decide +kernel
theorem dX9_carryBy_163 : decode cX9_carryBy 163 = .ok (.goto (-49), 3) := by decide +kernel
theorem dX9_carryBy_166 : decode cX9_carryBy 166 = .ok (.iinc 3 1, 3) := by decide +kernel
theorem dX9_carryBy_169 : decode cX9_carryBy 169 = .ok (.goto (-68), 3) := by decide +kernel
theorem dX9_carryBy_172 : decode cX9_carryBy 172 = .ok (.iconst (-1), 1) := by decide +kernel
theorem dX9_carryBy_173 : decode cX9_carryBy 173 = .ok (.ireturn, 1) := by decide +kernel
def fX9_carryBy_L129 (a1 : Int32) (a2 : Int32) (K114 : Int32 → Int32 → fd_H → Option (Int32 × fd_H)) : Nat → Int32 → Int32 → Int32 → fd_H → Option (Int32 × fd_H)
  | 0 => fun _ _ _ _ => none
  | n + 1 => fun v3 v4 v5 h =>
if (h.1 73 2) ≤ v5 then (
K114 v3 (v4 + (1 : Int32)) h)
else (
(fX9_carries a1 a2 v3 v4 v5 h).bind fun q3 =>
if q3.1 = true then (
some ((3 : Int32), q3.2))
else (
fX9_carryBy_L129 a1 a2 K114 n v3 v4 (v5 + (1 : Int32)) q3.2))
set_option maxRecDepth 100000 in
set_option maxHeartbeats 4000000 in
theorem sX9_carryBy_L129 {g : fd_G} {hm : fd_H} {a1 : Int32} {a2 : Int32} {r : Int32 × fd_H} {K114 : Int32 → Int32 → fd_H → Option (Int32 × fd_H)} (hK114 : ∀ (v3 : Int32) (v4 : Int32) (h : fd_H), K114 v3 v4 h = some r → fd_A g mX9_carryBy fd_E (fd_rm 7 0 0) (fd_Q g (some (.int r.1)) fd_X0 (fd_mx hm r.2) 0 0) 114 [(0, .ref (g.2.2.2 + 73)), (1, .int a1), (2, .int a2), (3, .int v3), (4, .int v4)] [] fd_X0 (fd_mx hm h) 0 0) : ∀ (n : Nat) (v3 : Int32) (v4 : Int32) (v5 : Int32) (h : fd_H), fX9_carryBy_L129 a1 a2 K114 n v3 v4 v5 h = some r → fd_A g mX9_carryBy fd_E (fd_rm 7 0 0) (fd_Q g (some (.int r.1)) fd_X0 (fd_mx hm r.2) 0 0) 129 [(0, .ref (g.2.2.2 + 73)), (1, .int a1), (2, .int a2), (3, .int v3), (4, .int v4), (5, .int v5)] [] fd_X0 (fd_mx hm h) 0 0 := by
  intro n
  induction n with
  | zero =>
    intro _ _ _ _ hf
    cases hf
  | succ n ih =>
    intro v3 v4 v5 h hf
    rw [fX9_carryBy_L129] at hf
    refine fr_iload (pc := 129) dX9_carryBy_129 5 rfl ?_
    refine fr_aload_n (pc := 131) dX9_carryBy_131 0 rfl rfl ?_
    refine vm_getI (pc := 132) dX9_carryBy_132 fl_X9_105 (by decide) (by decide) rfl rfl ?_
    refine fr_icmp_ge (pc := 135) 160 dX9_carryBy_135 (by decide) (fun c1 => ?_) (fun c1 => ?_)
    · have hf := fd_t c1 hf
      refine fr_iinc (pc := 160) (v := (v4 + (1 : Int32))) (lv' := [(4, .int (v4 + (1 : Int32))), (0, .ref (g.2.2.2 + 73)), (1, .int a1), (2, .int a2), (3, .int v3), (5, .int v5)]) dX9_carryBy_160 4 rfl rfl (by decide) rfl ?_
      refine fr_goto (pc := 163) 114 dX9_carryBy_163 (by decide) ?_
      refine fr_loc (lv' := [(0, .ref (g.2.2.2 + 73)), (1, .int a1), (2, .int a2), (3, .int v3), (4, .int (v4 + (1 : Int32)))]) [1, 2, 3, 4, 0] rfl ?_
      exact hK114 _ _ _ hf
    · have hf := fd_f c1 hf
      refine fr_aload_n (pc := 138) dX9_carryBy_138 0 rfl rfl ?_
      refine fr_iload_n (pc := 139) dX9_carryBy_139 1 rfl rfl ?_
      refine fr_iload_n (pc := 140) dX9_carryBy_140 2 rfl rfl ?_
      refine fr_iload_n (pc := 141) dX9_carryBy_141 3 rfl rfl ?_
      refine fr_iload (pc := 142) dX9_carryBy_142 4 rfl ?_
      refine fr_iload (pc := 144) dX9_carryBy_144 5 rfl ?_
      obtain ⟨q3, hc2, hf⟩ := fd_bi hf
      refine fr_callVz (pc := 146) (av := [.int a1, .int a2, .int v3, .int v4, .int v5]) dX9_carryBy_146 yy_X9_carries kw_571 (by decide) rfl rfl rfl rfl (Nat.le_of_ble_eq_true rfl) ⟨Nat.le_of_ble_eq_true rfl, Nat.le_of_ble_eq_true rfl, Nat.zero_le _, Nat.zero_le _⟩ (sX9_carries hc2) ?_
      refine fr_bz (pc := 149) 154 dX9_carryBy_149 (by decide) (fun c4 => ?_) (fun c4 => ?_)
      · have hf := fd_f c4 hf
        refine fr_iinc (pc := 154) (v := (v5 + (1 : Int32))) (lv' := [(5, .int (v5 + (1 : Int32))), (0, .ref (g.2.2.2 + 73)), (1, .int a1), (2, .int a2), (3, .int v3), (4, .int v4)]) dX9_carryBy_154 5 rfl rfl (by decide) rfl ?_
        refine fr_goto (pc := 157) 129 dX9_carryBy_157 (by decide) ?_
        refine fr_loc (lv' := [(0, .ref (g.2.2.2 + 73)), (1, .int a1), (2, .int a2), (3, .int v3), (4, .int v4), (5, .int (v5 + (1 : Int32)))]) [1, 2, 3, 4, 5, 0] rfl ?_
        exact ih _ _ _ _ hf
      · have hf := fd_t c4 hf
        refine fr_iconst (pc := 152) (v := (3 : Int32)) dX9_carryBy_152 (by decide) ?_
        exact vm_iretW (x := (3 : Int32)) (pc := 153) dX9_carryBy_153 rfl hf
def fX9_carryBy_L114 (a1 : Int32) (a2 : Int32) (K101 : Int32 → fd_H → Option (Int32 × fd_H)) : Nat → Int32 → Int32 → fd_H → Option (Int32 × fd_H)
  | 0 => fun _ _ _ => none
  | n + 1 => fun v3 v4 h =>
if (h.1 73 2) ≤ v4 then (
K101 (v3 + (1 : Int32)) h)
else (
fd_lt ((v4 + (1 : Int32))) fun x2 =>
fX9_carryBy_L129 a1 a2 (fX9_carryBy_L114 a1 a2 K101 n) fd_fu v3 v4 x2 h)
set_option maxRecDepth 100000 in
set_option maxHeartbeats 4000000 in
theorem sX9_carryBy_L114 {g : fd_G} {hm : fd_H} {a1 : Int32} {a2 : Int32} {r : Int32 × fd_H} {K101 : Int32 → fd_H → Option (Int32 × fd_H)} (hK101 : ∀ (v3 : Int32) (h : fd_H), K101 v3 h = some r → fd_A g mX9_carryBy fd_E (fd_rm 7 0 0) (fd_Q g (some (.int r.1)) fd_X0 (fd_mx hm r.2) 0 0) 101 [(0, .ref (g.2.2.2 + 73)), (1, .int a1), (2, .int a2), (3, .int v3)] [] fd_X0 (fd_mx hm h) 0 0) : ∀ (n : Nat) (v3 : Int32) (v4 : Int32) (h : fd_H), fX9_carryBy_L114 a1 a2 K101 n v3 v4 h = some r → fd_A g mX9_carryBy fd_E (fd_rm 7 0 0) (fd_Q g (some (.int r.1)) fd_X0 (fd_mx hm r.2) 0 0) 114 [(0, .ref (g.2.2.2 + 73)), (1, .int a1), (2, .int a2), (3, .int v3), (4, .int v4)] [] fd_X0 (fd_mx hm h) 0 0 := by
  intro n
  induction n with
  | zero =>
    intro _ _ _ hf
    cases hf
  | succ n ih =>
    intro v3 v4 h hf
    rw [fX9_carryBy_L114] at hf
    refine fr_iload (pc := 114) dX9_carryBy_114 4 rfl ?_
    refine fr_aload_n (pc := 116) dX9_carryBy_116 0 rfl rfl ?_
    refine vm_getI (pc := 117) dX9_carryBy_117 fl_X9_105 (by decide) (by decide) rfl rfl ?_
    refine fr_icmp_ge (pc := 120) 166 dX9_carryBy_120 (by decide) (fun c1 => ?_) (fun c1 => ?_)
    · have hf := fd_t c1 hf
      refine fr_iinc (pc := 166) (v := (v3 + (1 : Int32))) (lv' := [(3, .int (v3 + (1 : Int32))), (0, .ref (g.2.2.2 + 73)), (1, .int a1), (2, .int a2), (4, .int v4)]) dX9_carryBy_166 3 rfl rfl (by decide) rfl ?_
      refine fr_goto (pc := 169) 101 dX9_carryBy_169 (by decide) ?_
      refine fr_loc (lv' := [(0, .ref (g.2.2.2 + 73)), (1, .int a1), (2, .int a2), (3, .int (v3 + (1 : Int32)))]) [1, 2, 3, 0] rfl ?_
      exact hK101 _ _ hf
    · have hf := fd_f c1 hf
      refine fr_iload (pc := 123) dX9_carryBy_123 4 rfl ?_
      refine fr_iconst (pc := 125) (v := (1 : Int32)) dX9_carryBy_125 (by decide) ?_
      refine fr_iadd (pc := 126) dX9_carryBy_126 ?_
      obtain ⟨x2, ex2, hf⟩ := fd_lt_e hf
      refine fr_nmi ex2 ?_
      refine fr_istore (pc := 127) (lv' := [(5, .int x2), (0, .ref (g.2.2.2 + 73)), (1, .int a1), (2, .int a2), (3, .int v3), (4, .int v4)]) dX9_carryBy_127 (by decide) rfl ?_
      refine fr_loc (lv' := [(0, .ref (g.2.2.2 + 73)), (1, .int a1), (2, .int a2), (3, .int v3), (4, .int v4), (5, .int x2)]) [1, 2, 3, 4, 5, 0] rfl ?_
      exact sX9_carryBy_L129 ih _  _ _ _ _ hf
def fX9_carryBy_L101 (a1 : Int32) (a2 : Int32) : Nat → Int32 → fd_H → Option (Int32 × fd_H)
  | 0 => fun _ _ => none
  | n + 1 => fun v3 h =>
if (h.1 73 2) ≤ v3 then (
some ((-1 : Int32), h))
else (
fd_lt ((v3 + (1 : Int32))) fun x2 =>
fX9_carryBy_L114 a1 a2 (fX9_carryBy_L101 a1 a2 n) fd_fu v3 x2 h)
set_option maxRecDepth 100000 in
set_option maxHeartbeats 4000000 in
theorem sX9_carryBy_L101 {g : fd_G} {hm : fd_H} {a1 : Int32} {a2 : Int32} {r : Int32 × fd_H} : ∀ (n : Nat) (v3 : Int32) (h : fd_H), fX9_carryBy_L101 a1 a2 n v3 h = some r → fd_A g mX9_carryBy fd_E (fd_rm 7 0 0) (fd_Q g (some (.int r.1)) fd_X0 (fd_mx hm r.2) 0 0) 101 [(0, .ref (g.2.2.2 + 73)), (1, .int a1), (2, .int a2), (3, .int v3)] [] fd_X0 (fd_mx hm h) 0 0 := by
  intro n
  induction n with
  | zero =>
    intro _ _ hf
    cases hf
  | succ n ih =>
    intro v3 h hf
    rw [fX9_carryBy_L101] at hf
    refine fr_iload_n (pc := 101) dX9_carryBy_101 3 rfl rfl ?_
    refine fr_aload_n (pc := 102) dX9_carryBy_102 0 rfl rfl ?_
    refine vm_getI (pc := 103) dX9_carryBy_103 fl_X9_105 (by decide) (by decide) rfl rfl ?_
    refine fr_icmp_ge (pc := 106) 172 dX9_carryBy_106 (by decide) (fun c1 => ?_) (fun c1 => ?_)
    · have hf := fd_t c1 hf
      refine fr_iconst (pc := 172) (v := (-1 : Int32)) dX9_carryBy_172 (by decide) ?_
      exact vm_iretW (x := (-1 : Int32)) (pc := 173) dX9_carryBy_173 rfl hf
    · have hf := fd_f c1 hf
      refine fr_iload_n (pc := 109) dX9_carryBy_109 3 rfl rfl ?_
      refine fr_iconst (pc := 110) (v := (1 : Int32)) dX9_carryBy_110 (by decide) ?_
      refine fr_iadd (pc := 111) dX9_carryBy_111 ?_
      obtain ⟨x2, ex2, hf⟩ := fd_lt_e hf
      refine fr_nmi ex2 ?_
      refine fr_istore (pc := 112) (lv' := [(4, .int x2), (0, .ref (g.2.2.2 + 73)), (1, .int a1), (2, .int a2), (3, .int v3)]) dX9_carryBy_112 (by decide) rfl ?_
      refine fr_loc (lv' := [(0, .ref (g.2.2.2 + 73)), (1, .int a1), (2, .int a2), (3, .int v3), (4, .int x2)]) [1, 2, 3, 4, 0] rfl ?_
      exact sX9_carryBy_L114 ih _  _ _ _ hf
def fX9_carryBy_L63 (a1 : Int32) (a2 : Int32) (K50 : Int32 → fd_H → Option (Int32 × fd_H)) : Nat → Int32 → Int32 → fd_H → Option (Int32 × fd_H)
  | 0 => fun _ _ _ => none
  | n + 1 => fun v3 v4 h =>
if (h.1 73 2) ≤ v4 then (
K50 (v3 + (1 : Int32)) h)
else (
(fX9_carries a1 a2 v3 v4 (-1 : Int32) h).bind fun q3 =>
if q3.1 = true then (
some ((2 : Int32), q3.2))
else (
fX9_carryBy_L63 a1 a2 K50 n v3 (v4 + (1 : Int32)) q3.2))
set_option maxRecDepth 100000 in
set_option maxHeartbeats 4000000 in
theorem sX9_carryBy_L63 {g : fd_G} {hm : fd_H} {a1 : Int32} {a2 : Int32} {r : Int32 × fd_H} {K50 : Int32 → fd_H → Option (Int32 × fd_H)} (hK50 : ∀ (v3 : Int32) (h : fd_H), K50 v3 h = some r → fd_A g mX9_carryBy fd_E (fd_rm 7 0 0) (fd_Q g (some (.int r.1)) fd_X0 (fd_mx hm r.2) 0 0) 50 [(0, .ref (g.2.2.2 + 73)), (1, .int a1), (2, .int a2), (3, .int v3)] [] fd_X0 (fd_mx hm h) 0 0) : ∀ (n : Nat) (v3 : Int32) (v4 : Int32) (h : fd_H), fX9_carryBy_L63 a1 a2 K50 n v3 v4 h = some r → fd_A g mX9_carryBy fd_E (fd_rm 7 0 0) (fd_Q g (some (.int r.1)) fd_X0 (fd_mx hm r.2) 0 0) 63 [(0, .ref (g.2.2.2 + 73)), (1, .int a1), (2, .int a2), (3, .int v3), (4, .int v4)] [] fd_X0 (fd_mx hm h) 0 0 := by
  intro n
  induction n with
  | zero =>
    intro _ _ _ hf
    cases hf
  | succ n ih =>
    intro v3 v4 h hf
    rw [fX9_carryBy_L63] at hf
    refine fr_iload (pc := 63) dX9_carryBy_63 4 rfl ?_
    refine fr_aload_n (pc := 65) dX9_carryBy_65 0 rfl rfl ?_
    refine vm_getI (pc := 66) dX9_carryBy_66 fl_X9_105 (by decide) (by decide) rfl rfl ?_
    refine fr_icmp_ge (pc := 69) 93 dX9_carryBy_69 (by decide) (fun c1 => ?_) (fun c1 => ?_)
    · have hf := fd_t c1 hf
      refine fr_iinc (pc := 93) (v := (v3 + (1 : Int32))) (lv' := [(3, .int (v3 + (1 : Int32))), (0, .ref (g.2.2.2 + 73)), (1, .int a1), (2, .int a2), (4, .int v4)]) dX9_carryBy_93 3 rfl rfl (by decide) rfl ?_
      refine fr_goto (pc := 96) 50 dX9_carryBy_96 (by decide) ?_
      refine fr_loc (lv' := [(0, .ref (g.2.2.2 + 73)), (1, .int a1), (2, .int a2), (3, .int (v3 + (1 : Int32)))]) [1, 2, 3, 0] rfl ?_
      exact hK50 _ _ hf
    · have hf := fd_f c1 hf
      refine fr_aload_n (pc := 72) dX9_carryBy_72 0 rfl rfl ?_
      refine fr_iload_n (pc := 73) dX9_carryBy_73 1 rfl rfl ?_
      refine fr_iload_n (pc := 74) dX9_carryBy_74 2 rfl rfl ?_
      refine fr_iload_n (pc := 75) dX9_carryBy_75 3 rfl rfl ?_
      refine fr_iload (pc := 76) dX9_carryBy_76 4 rfl ?_
      refine fr_iconst (pc := 78) (v := (-1 : Int32)) dX9_carryBy_78 (by decide) ?_
      obtain ⟨q3, hc2, hf⟩ := fd_bi hf
      refine fr_callVz (pc := 79) (av := [.int a1, .int a2, .int v3, .int v4, .int (-1 : Int32)]) dX9_carryBy_79 yy_X9_carries kw_571 (by decide) rfl rfl rfl rfl (Nat.le_of_ble_eq_true rfl) ⟨Nat.le_of_ble_eq_true rfl, Nat.le_of_ble_eq_true rfl, Nat.zero_le _, Nat.zero_le _⟩ (sX9_carries hc2) ?_
      refine fr_bz (pc := 82) 87 dX9_carryBy_82 (by decide) (fun c4 => ?_) (fun c4 => ?_)
      · have hf := fd_f c4 hf
        refine fr_iinc (pc := 87) (v := (v4 + (1 : Int32))) (lv' := [(4, .int (v4 + (1 : Int32))), (0, .ref (g.2.2.2 + 73)), (1, .int a1), (2, .int a2), (3, .int v3)]) dX9_carryBy_87 4 rfl rfl (by decide) rfl ?_
        refine fr_goto (pc := 90) 63 dX9_carryBy_90 (by decide) ?_
        refine fr_loc (lv' := [(0, .ref (g.2.2.2 + 73)), (1, .int a1), (2, .int a2), (3, .int v3), (4, .int (v4 + (1 : Int32)))]) [1, 2, 3, 4, 0] rfl ?_
        exact ih _ _ _ hf
      · have hf := fd_t c4 hf
        refine fr_iconst (pc := 85) (v := (2 : Int32)) dX9_carryBy_85 (by decide) ?_
        exact vm_iretW (x := (2 : Int32)) (pc := 86) dX9_carryBy_86 rfl hf
def fX9_carryBy_L50 (a1 : Int32) (a2 : Int32) : Nat → Int32 → fd_H → Option (Int32 × fd_H)
  | 0 => fun _ _ => none
  | n + 1 => fun v3 h =>
if (h.1 73 2) ≤ v3 then (
fX9_carryBy_L101 a1 a2 fd_fu (0 : Int32) h)
else (
fd_lt ((v3 + (1 : Int32))) fun x2 =>
fX9_carryBy_L63 a1 a2 (fX9_carryBy_L50 a1 a2 n) fd_fu v3 x2 h)
set_option maxRecDepth 100000 in
set_option maxHeartbeats 4000000 in
theorem sX9_carryBy_L50 {g : fd_G} {hm : fd_H} {a1 : Int32} {a2 : Int32} {r : Int32 × fd_H} : ∀ (n : Nat) (v3 : Int32) (h : fd_H), fX9_carryBy_L50 a1 a2 n v3 h = some r → fd_A g mX9_carryBy fd_E (fd_rm 7 0 0) (fd_Q g (some (.int r.1)) fd_X0 (fd_mx hm r.2) 0 0) 50 [(0, .ref (g.2.2.2 + 73)), (1, .int a1), (2, .int a2), (3, .int v3)] [] fd_X0 (fd_mx hm h) 0 0 := by
  intro n
  induction n with
  | zero =>
    intro _ _ hf
    cases hf
  | succ n ih =>
    intro v3 h hf
    rw [fX9_carryBy_L50] at hf
    refine fr_iload_n (pc := 50) dX9_carryBy_50 3 rfl rfl ?_
    refine fr_aload_n (pc := 51) dX9_carryBy_51 0 rfl rfl ?_
    refine vm_getI (pc := 52) dX9_carryBy_52 fl_X9_105 (by decide) (by decide) rfl rfl ?_
    refine fr_icmp_ge (pc := 55) 99 dX9_carryBy_55 (by decide) (fun c1 => ?_) (fun c1 => ?_)
    · have hf := fd_t c1 hf
      refine fr_iconst (pc := 99) (v := (0 : Int32)) dX9_carryBy_99 (by decide) ?_
      refine fr_istore_n (pc := 100) (lv' := [(3, .int (0 : Int32)), (0, .ref (g.2.2.2 + 73)), (1, .int a1), (2, .int a2)]) dX9_carryBy_100 rfl (by decide) rfl ?_
      refine fr_loc (lv' := [(0, .ref (g.2.2.2 + 73)), (1, .int a1), (2, .int a2), (3, .int (0 : Int32))]) [1, 2, 3, 0] rfl ?_
      exact sX9_carryBy_L101 _  _ _ hf
    · have hf := fd_f c1 hf
      refine fr_iload_n (pc := 58) dX9_carryBy_58 3 rfl rfl ?_
      refine fr_iconst (pc := 59) (v := (1 : Int32)) dX9_carryBy_59 (by decide) ?_
      refine fr_iadd (pc := 60) dX9_carryBy_60 ?_
      obtain ⟨x2, ex2, hf⟩ := fd_lt_e hf
      refine fr_nmi ex2 ?_
      refine fr_istore (pc := 61) (lv' := [(4, .int x2), (0, .ref (g.2.2.2 + 73)), (1, .int a1), (2, .int a2), (3, .int v3)]) dX9_carryBy_61 (by decide) rfl ?_
      refine fr_loc (lv' := [(0, .ref (g.2.2.2 + 73)), (1, .int a1), (2, .int a2), (3, .int v3), (4, .int x2)]) [1, 2, 3, 4, 0] rfl ?_
      exact sX9_carryBy_L63 ih _  _ _ _ hf
def fX9_carryBy_L20 (a1 : Int32) (a2 : Int32) : Nat → Int32 → fd_H → Option (Int32 × fd_H)
  | 0 => fun _ _ => none
  | n + 1 => fun v3 h =>
if (h.1 73 2) ≤ v3 then (
fX9_carryBy_L50 a1 a2 fd_fu (0 : Int32) h)
else (
(fX9_carries a1 a2 v3 (-1 : Int32) (-1 : Int32) h).bind fun q3 =>
if q3.1 = true then (
some ((1 : Int32), q3.2))
else (
fX9_carryBy_L20 a1 a2 n (v3 + (1 : Int32)) q3.2))
set_option maxRecDepth 100000 in
set_option maxHeartbeats 4000000 in
theorem sX9_carryBy_L20 {g : fd_G} {hm : fd_H} {a1 : Int32} {a2 : Int32} {r : Int32 × fd_H} : ∀ (n : Nat) (v3 : Int32) (h : fd_H), fX9_carryBy_L20 a1 a2 n v3 h = some r → fd_A g mX9_carryBy fd_E (fd_rm 7 0 0) (fd_Q g (some (.int r.1)) fd_X0 (fd_mx hm r.2) 0 0) 20 [(0, .ref (g.2.2.2 + 73)), (1, .int a1), (2, .int a2), (3, .int v3)] [] fd_X0 (fd_mx hm h) 0 0 := by
  intro n
  induction n with
  | zero =>
    intro _ _ hf
    cases hf
  | succ n ih =>
    intro v3 h hf
    rw [fX9_carryBy_L20] at hf
    refine fr_iload_n (pc := 20) dX9_carryBy_20 3 rfl rfl ?_
    refine fr_aload_n (pc := 21) dX9_carryBy_21 0 rfl rfl ?_
    refine vm_getI (pc := 22) dX9_carryBy_22 fl_X9_105 (by decide) (by decide) rfl rfl ?_
    refine fr_icmp_ge (pc := 25) 48 dX9_carryBy_25 (by decide) (fun c1 => ?_) (fun c1 => ?_)
    · have hf := fd_t c1 hf
      refine fr_iconst (pc := 48) (v := (0 : Int32)) dX9_carryBy_48 (by decide) ?_
      refine fr_istore_n (pc := 49) (lv' := [(3, .int (0 : Int32)), (0, .ref (g.2.2.2 + 73)), (1, .int a1), (2, .int a2)]) dX9_carryBy_49 rfl (by decide) rfl ?_
      refine fr_loc (lv' := [(0, .ref (g.2.2.2 + 73)), (1, .int a1), (2, .int a2), (3, .int (0 : Int32))]) [1, 2, 3, 0] rfl ?_
      exact sX9_carryBy_L50 _  _ _ hf
    · have hf := fd_f c1 hf
      refine fr_aload_n (pc := 28) dX9_carryBy_28 0 rfl rfl ?_
      refine fr_iload_n (pc := 29) dX9_carryBy_29 1 rfl rfl ?_
      refine fr_iload_n (pc := 30) dX9_carryBy_30 2 rfl rfl ?_
      refine fr_iload_n (pc := 31) dX9_carryBy_31 3 rfl rfl ?_
      refine fr_iconst (pc := 32) (v := (-1 : Int32)) dX9_carryBy_32 (by decide) ?_
      refine fr_iconst (pc := 33) (v := (-1 : Int32)) dX9_carryBy_33 (by decide) ?_
      obtain ⟨q3, hc2, hf⟩ := fd_bi hf
      refine fr_callVz (pc := 34) (av := [.int a1, .int a2, .int v3, .int (-1 : Int32), .int (-1 : Int32)]) dX9_carryBy_34 yy_X9_carries kw_571 (by decide) rfl rfl rfl rfl (Nat.le_of_ble_eq_true rfl) ⟨Nat.le_of_ble_eq_true rfl, Nat.le_of_ble_eq_true rfl, Nat.zero_le _, Nat.zero_le _⟩ (sX9_carries hc2) ?_
      refine fr_bz (pc := 37) 42 dX9_carryBy_37 (by decide) (fun c4 => ?_) (fun c4 => ?_)
      · have hf := fd_f c4 hf
        refine fr_iinc (pc := 42) (v := (v3 + (1 : Int32))) (lv' := [(3, .int (v3 + (1 : Int32))), (0, .ref (g.2.2.2 + 73)), (1, .int a1), (2, .int a2)]) dX9_carryBy_42 3 rfl rfl (by decide) rfl ?_
        refine fr_goto (pc := 45) 20 dX9_carryBy_45 (by decide) ?_
        refine fr_loc (lv' := [(0, .ref (g.2.2.2 + 73)), (1, .int a1), (2, .int a2), (3, .int (v3 + (1 : Int32)))]) [1, 2, 3, 0] rfl ?_
        exact ih _ _ hf
      · have hf := fd_t c4 hf
        refine fr_iconst (pc := 40) (v := (1 : Int32)) dX9_carryBy_40 (by decide) ?_
        exact vm_iretW (x := (1 : Int32)) (pc := 41) dX9_carryBy_41 rfl hf
def fX9_carryBy (a1 : Int32) (a2 : Int32) (h : fd_H) : Option (Int32 × fd_H) :=
(fX9_asTold h).bind fun h2 =>
(fX9_carries a1 a2 (-1 : Int32) (-1 : Int32) (-1 : Int32) h2).bind fun q4 =>
if q4.1 = true then (
some ((0 : Int32), q4.2))
else (
fX9_carryBy_L20 a1 a2 fd_fu (0 : Int32) q4.2)
set_option maxRecDepth 100000 in
set_option maxHeartbeats 4000000 in
theorem sX9_carryBy {g : fd_G} {hm : fd_H} {a1 : Int32} {a2 : Int32} {r : Int32 × fd_H} {h : fd_H} (hf : fX9_carryBy a1 a2 h = some r) : fd_S g mX9_carryBy 7 [.ref (g.2.2.2 + 73), .int a1, .int a2] fd_X0 (fd_mx hm h) (some (.int r.1)) fd_X0 (fd_mx hm r.2) 0 0 := by
  refine fd_S.of (by decide +kernel) (Nat.le_of_ble_eq_true rfl) ?_
  unfold fX9_carryBy at hf
  refine fr_loc (lv' := [(0, .ref (g.2.2.2 + 73)), (1, .int a1), (2, .int a2)]) [0, 1, 2] rfl ?_
  refine fr_aload_n (pc := 0) dX9_carryBy_0 0 rfl rfl ?_
  obtain ⟨h2, hc1, hf⟩ := fd_bi hf
  refine fr_callVv (pc := 1) (av := []) dX9_carryBy_1 yy_X9_asTold kw_563 (by decide) rfl rfl rfl rfl (Nat.le_of_ble_eq_true rfl) ⟨Nat.le_of_ble_eq_true rfl, Nat.le_of_ble_eq_true rfl, Nat.zero_le _, Nat.zero_le _⟩ (sX9_asTold hc1) ?_
  refine fr_aload_n (pc := 4) dX9_carryBy_4 0 rfl rfl ?_
  refine fr_iload_n (pc := 5) dX9_carryBy_5 1 rfl rfl ?_
  refine fr_iload_n (pc := 6) dX9_carryBy_6 2 rfl rfl ?_
  refine fr_iconst (pc := 7) (v := (-1 : Int32)) dX9_carryBy_7 (by decide) ?_
  refine fr_iconst (pc := 8) (v := (-1 : Int32)) dX9_carryBy_8 (by decide) ?_
  refine fr_iconst (pc := 9) (v := (-1 : Int32)) dX9_carryBy_9 (by decide) ?_
  obtain ⟨q4, hc3, hf⟩ := fd_bi hf
  refine fr_callVz (pc := 10) (av := [.int a1, .int a2, .int (-1 : Int32), .int (-1 : Int32), .int (-1 : Int32)]) dX9_carryBy_10 yy_X9_carries kw_571 (by decide) rfl rfl rfl rfl (Nat.le_of_ble_eq_true rfl) ⟨Nat.le_of_ble_eq_true rfl, Nat.le_of_ble_eq_true rfl, Nat.zero_le _, Nat.zero_le _⟩ (sX9_carries hc3) ?_
  refine fr_bz (pc := 13) 18 dX9_carryBy_13 (by decide) (fun c5 => ?_) (fun c5 => ?_)
  · have hf := fd_f c5 hf
    refine fr_iconst (pc := 18) (v := (0 : Int32)) dX9_carryBy_18 (by decide) ?_
    refine fr_istore_n (pc := 19) (lv' := [(3, .int (0 : Int32)), (0, .ref (g.2.2.2 + 73)), (1, .int a1), (2, .int a2)]) dX9_carryBy_19 rfl (by decide) rfl ?_
    refine fr_loc (lv' := [(0, .ref (g.2.2.2 + 73)), (1, .int a1), (2, .int a2), (3, .int (0 : Int32))]) [1, 2, 3, 0] rfl ?_
    exact sX9_carryBy_L20 _  _ _ hf
  · have hf := fd_t c5 hf
    refine fr_iconst (pc := 16) (v := (0 : Int32)) dX9_carryBy_16 (by decide) ?_
    exact vm_iretW (x := (0 : Int32)) (pc := 17) dX9_carryBy_17 rfl hf
theorem dX9_wasOf_0 : decode cX9_wasOf 0 = .ok (.aload_n 0, 1) := by decide +kernel
theorem dX9_wasOf_1 : decode cX9_wasOf 1 = .ok (.invokevirtual 168, 3) := by decide +kernel
theorem dX9_wasOf_4 : decode cX9_wasOf 4 = .ok (.aload_n 0, 1) := by decide +kernel
theorem dX9_wasOf_5 : decode cX9_wasOf 5 = .ok (.getfield 22, 3) := by decide +kernel
theorem dX9_wasOf_8 : decode cX9_wasOf 8 = .ok (.iload_n 1, 1) := by decide +kernel
theorem dX9_wasOf_9 : decode cX9_wasOf 9 = .ok (.iaload, 1) := by decide +kernel
theorem dX9_wasOf_10 : decode cX9_wasOf 10 = .ok (.istore_n 2, 1) := by decide +kernel
theorem dX9_wasOf_11 : decode cX9_wasOf 11 = .ok (.iconst 0, 1) := by decide +kernel
theorem dX9_wasOf_12 : decode cX9_wasOf 12 = .ok (.istore_n 3, 1) := by decide +kernel
theorem dX9_wasOf_13 : decode cX9_wasOf 13 = .ok (.iconst 0, 1) := by decide +kernel
theorem dX9_wasOf_14 : decode cX9_wasOf 14 = .ok (.istore 4, 2) := by decide +kernel
theorem dX9_wasOf_16 : decode cX9_wasOf 16 = .ok (.iload 4, 2) := by decide +kernel
theorem dX9_wasOf_18 : decode cX9_wasOf 18 = .ok (.bipush 26, 2) := by decide +kernel
theorem dX9_wasOf_20 : decode cX9_wasOf 20 = .ok (.if_icmp .ge 35, 3) := by decide +kernel
theorem dX9_wasOf_23 : decode cX9_wasOf 23 = .ok (.aload_n 0, 1) := by decide +kernel
theorem dX9_wasOf_24 : decode cX9_wasOf 24 = .ok (.getfield 22, 3) := by decide +kernel
theorem dX9_wasOf_27 : decode cX9_wasOf 27 = .ok (.iload_n 1, 1) := by decide +kernel
theorem dX9_wasOf_28 : decode cX9_wasOf 28 = .ok (.iload 4, 2) := by decide +kernel
theorem dX9_wasOf_30 : decode cX9_wasOf 30 = .ok (.iastore, 1) := by decide +kernel
theorem dX9_wasOf_31 : decode cX9_wasOf 31 = .ok (.iload_n 3, 1) := by decide +kernel
theorem dX9_wasOf_32 : decode cX9_wasOf 32 = .ok (.aload_n 0, 1) := by decide +kernel
theorem dX9_wasOf_33 : decode cX9_wasOf 33 = .ok (.invokevirtual 247, 3) := by decide +kernel
theorem dX9_wasOf_36 : decode cX9_wasOf 36 = .ok (.ifCond .eq 10, 3) := by decide +kernel
theorem dX9_wasOf_39 : decode cX9_wasOf 39 = .ok (.iconst 1, 1) := by decide +kernel
theorem dX9_wasOf_40 : decode cX9_wasOf 40 = .ok (.iload 4, 2) := by decide +kernel
theorem dX9_wasOf_42 : decode cX9_wasOf 42 = .ok (.ishl, 1) := by decide +kernel
theorem dX9_wasOf_43 : decode cX9_wasOf 43 = .ok (.goto 4, 3) := by decide +kernel
theorem dX9_wasOf_46 : decode cX9_wasOf 46 = .ok (.iconst 0, 1) := by decide +kernel
theorem dX9_wasOf_47 : decode cX9_wasOf 47 = .ok (.ior, 1) := by decide +kernel
theorem dX9_wasOf_48 : decode cX9_wasOf 48 = .ok (.istore_n 3, 1) := by decide +kernel
theorem dX9_wasOf_49 : decode cX9_wasOf 49 = .ok (.iinc 4 1, 3) := by decide +kernel
theorem dX9_wasOf_52 : decode cX9_wasOf 52 = .ok (.goto (-36), 3) := by decide +kernel
theorem dX9_wasOf_55 : decode cX9_wasOf 55 = .ok (.aload_n 0, 1) := by decide +kernel
theorem dX9_wasOf_56 : decode cX9_wasOf 56 = .ok (.getfield 22, 3) := by decide +kernel
theorem dX9_wasOf_59 : decode cX9_wasOf 59 = .ok (.iload_n 1, 1) := by decide +kernel
theorem dX9_wasOf_60 : decode cX9_wasOf 60 = .ok (.iload_n 2, 1) := by decide +kernel
theorem dX9_wasOf_61 : decode cX9_wasOf 61 = .ok (.iastore, 1) := by decide +kernel
theorem dX9_wasOf_62 : decode cX9_wasOf 62 = .ok (.iload_n 3, 1) := by decide +kernel
theorem dX9_wasOf_63 : decode cX9_wasOf 63 = .ok (.ireturn, 1) := by decide +kernel
def fX9_wasOf_L47 (a1 : Int32) (K16 : Int32 → Int32 → Int32 → fd_H → Option (Int32 × fd_H)) (v2 : Int32) (v4 : Int32) (vs0 : Int32) (vs1 : Int32) (h : fd_H) : Option (Int32 × fd_H) :=
fd_lt ((vs1 ||| vs0)) fun x1 =>
K16 v2 x1 (v4 + (1 : Int32)) h
set_option maxRecDepth 100000 in
set_option maxHeartbeats 4000000 in
theorem sX9_wasOf_L47 {g : fd_G} {hm : fd_H} {a1 : Int32} {r : Int32 × fd_H} {K16 : Int32 → Int32 → Int32 → fd_H → Option (Int32 × fd_H)} (hK16 : ∀ (v2 : Int32) (v3 : Int32) (v4 : Int32) (h : fd_H), K16 v2 v3 v4 h = some r → fd_A g mX9_wasOf fd_E (fd_rm 7 0 0) (fd_Q g (some (.int r.1)) fd_X0 (fd_mx hm r.2) 0 0) 16 [(0, .ref (g.2.2.2 + 73)), (1, .int a1), (2, .int v2), (3, .int v3), (4, .int v4)] [] fd_X0 (fd_mx hm h) 0 0) : ∀ (v2 : Int32) (v4 : Int32) (vs0 : Int32) (vs1 : Int32) (h : fd_H), fX9_wasOf_L47 a1 K16 v2 v4 vs0 vs1 h = some r → fd_A g mX9_wasOf fd_E (fd_rm 7 0 0) (fd_Q g (some (.int r.1)) fd_X0 (fd_mx hm r.2) 0 0) 47 [(0, .ref (g.2.2.2 + 73)), (1, .int a1), (2, .int v2), (4, .int v4)] [.int vs0, .int vs1] fd_X0 (fd_mx hm h) 0 0 := by
  intro v2 v4 vs0 vs1 h hf
  unfold fX9_wasOf_L47 at hf
  refine fr_ior (pc := 47) dX9_wasOf_47 ?_
  obtain ⟨x1, ex1, hf⟩ := fd_lt_e hf
  refine fr_nmi ex1 ?_
  refine fr_istore_n (pc := 48) (lv' := [(3, .int x1), (0, .ref (g.2.2.2 + 73)), (1, .int a1), (2, .int v2), (4, .int v4)]) dX9_wasOf_48 rfl (by decide) rfl ?_
  refine fr_iinc (pc := 49) (v := (v4 + (1 : Int32))) (lv' := [(4, .int (v4 + (1 : Int32))), (3, .int x1), (0, .ref (g.2.2.2 + 73)), (1, .int a1), (2, .int v2)]) dX9_wasOf_49 4 rfl rfl (by decide) rfl ?_
  refine fr_goto (pc := 52) 16 dX9_wasOf_52 (by decide) ?_
  refine fr_loc (lv' := [(0, .ref (g.2.2.2 + 73)), (1, .int a1), (2, .int v2), (3, .int x1), (4, .int (v4 + (1 : Int32)))]) [2, 3, 4, 1, 0] rfl ?_
  exact hK16 _ _ _ _ hf
def fX9_wasOf_L16 (a1 : Int32) : Nat → Int32 → Int32 → Int32 → fd_H → Option (Int32 × fd_H)
  | 0 => fun _ _ _ _ => none
  | n + 1 => fun v2 v3 v4 h =>
if (26 : Int32) ≤ v4 then (
fd_g (fd_in a1 41) (
fd_lt (fd_ui h 78 a1.toNatClampNeg v2) fun h3 =>
some (v3, h3)))
else (
fd_g (fd_in a1 41) (
fd_lt (fd_ui h 78 a1.toNatClampNeg v4) fun h5 =>
(fX9_isSeen h5).bind fun q7 =>
if q7.1 = true then (
fX9_wasOf_L47 a1 (fX9_wasOf_L16 a1 n) v2 v4 ((1 : Int32) <<< (v4 &&& 31)) v3 q7.2)
else (
fX9_wasOf_L47 a1 (fX9_wasOf_L16 a1 n) v2 v4 (0 : Int32) v3 q7.2)))
set_option maxRecDepth 100000 in
set_option maxHeartbeats 4000000 in
theorem sX9_wasOf_L16 {g : fd_G} {hm : fd_H} {a1 : Int32} {r : Int32 × fd_H} : ∀ (n : Nat) (v2 : Int32) (v3 : Int32) (v4 : Int32) (h : fd_H), fX9_wasOf_L16 a1 n v2 v3 v4 h = some r → fd_A g mX9_wasOf fd_E (fd_rm 7 0 0) (fd_Q g (some (.int r.1)) fd_X0 (fd_mx hm r.2) 0 0) 16 [(0, .ref (g.2.2.2 + 73)), (1, .int a1), (2, .int v2), (3, .int v3), (4, .int v4)] [] fd_X0 (fd_mx hm h) 0 0 := by
  intro n
  induction n with
  | zero =>
    intro _ _ _ _ hf
    cases hf
  | succ n ih =>
    intro v2 v3 v4 h hf
    rw [fX9_wasOf_L16] at hf
    refine fr_iload (pc := 16) dX9_wasOf_16 4 rfl ?_
    refine fr_bipush (pc := 18) (v := (26 : Int32)) dX9_wasOf_18 (by decide) ?_
    refine fr_icmp_ge (pc := 20) 55 dX9_wasOf_20 (by decide) (fun c1 => ?_) (fun c1 => ?_)
    · have hf := fd_t c1 hf
      refine fr_aload_n (pc := 55) dX9_wasOf_55 0 rfl rfl ?_
      refine fr_getR (pc := 56) dX9_wasOf_56 fl_X9_22 (by decide) rfl rfl ?_
      refine fr_iload_n (pc := 59) dX9_wasOf_59 1 rfl rfl ?_
      refine fr_iload_n (pc := 60) dX9_wasOf_60 2 rfl rfl ?_
      obtain ⟨g2, hf⟩ := fd_g_e hf
      obtain ⟨h3, eh3, hf⟩ := fd_lt_e hf
      refine vm_iast (pc := 61) dX9_wasOf_61 (by decide) (by decide) rfl g2 eh3 ?_
      refine fr_iload_n (pc := 62) dX9_wasOf_62 3 rfl rfl ?_
      exact vm_iretW (x := v3) (pc := 63) dX9_wasOf_63 rfl hf
    · have hf := fd_f c1 hf
      refine fr_aload_n (pc := 23) dX9_wasOf_23 0 rfl rfl ?_
      refine fr_getR (pc := 24) dX9_wasOf_24 fl_X9_22 (by decide) rfl rfl ?_
      refine fr_iload_n (pc := 27) dX9_wasOf_27 1 rfl rfl ?_
      refine fr_iload (pc := 28) dX9_wasOf_28 4 rfl ?_
      obtain ⟨g4, hf⟩ := fd_g_e hf
      obtain ⟨h5, eh5, hf⟩ := fd_lt_e hf
      refine vm_iast (pc := 30) dX9_wasOf_30 (by decide) (by decide) rfl g4 eh5 ?_
      refine fr_iload_n (pc := 31) dX9_wasOf_31 3 rfl rfl ?_
      refine fr_aload_n (pc := 32) dX9_wasOf_32 0 rfl rfl ?_
      obtain ⟨q7, hc6, hf⟩ := fd_bi hf
      refine fr_callVz (pc := 33) (av := []) dX9_wasOf_33 yy_X9_isSeen kw_575 (by decide) rfl rfl rfl rfl (Nat.le_of_ble_eq_true rfl) ⟨Nat.le_of_ble_eq_true rfl, Nat.le_of_ble_eq_true rfl, Nat.zero_le _, Nat.zero_le _⟩ (sX9_isSeen hc6) ?_
      refine fr_bz (pc := 36) 46 dX9_wasOf_36 (by decide) (fun c8 => ?_) (fun c8 => ?_)
      · have hf := fd_f c8 hf
        refine fr_iconst (pc := 46) (v := (0 : Int32)) dX9_wasOf_46 (by decide) ?_
        refine fr_loc (lv' := [(0, .ref (g.2.2.2 + 73)), (1, .int a1), (2, .int v2), (4, .int v4)]) [0, 1, 2, 4] rfl ?_
        exact sX9_wasOf_L47 ih  _ _ _ _ _ hf
      · have hf := fd_t c8 hf
        refine fr_iconst (pc := 39) (v := (1 : Int32)) dX9_wasOf_39 (by decide) ?_
        refine fr_iload (pc := 40) dX9_wasOf_40 4 rfl ?_
        refine fr_ishl (pc := 42) dX9_wasOf_42 ?_
        refine fr_goto (pc := 43) 47 dX9_wasOf_43 (by decide) ?_
        refine fr_loc (lv' := [(0, .ref (g.2.2.2 + 73)), (1, .int a1), (2, .int v2), (4, .int v4)]) [0, 1, 2, 4] rfl ?_
        exact sX9_wasOf_L47 ih  _ _ _ _ _ hf
def fX9_wasOf (a1 : Int32) (h : fd_H) : Option (Int32 × fd_H) :=
(fX9_asTold h).bind fun h2 =>
fd_g (fd_in a1 41) (
fd_lt ((h2.1 78 a1.toNatClampNeg)) fun x4 =>
fX9_wasOf_L16 a1 fd_fu x4 (0 : Int32) (0 : Int32) h2)
set_option maxRecDepth 100000 in
set_option maxHeartbeats 4000000 in
theorem sX9_wasOf {g : fd_G} {hm : fd_H} {a1 : Int32} {r : Int32 × fd_H} {h : fd_H} (hf : fX9_wasOf a1 h = some r) : fd_S g mX9_wasOf 7 [.ref (g.2.2.2 + 73), .int a1] fd_X0 (fd_mx hm h) (some (.int r.1)) fd_X0 (fd_mx hm r.2) 0 0 := by
  refine fd_S.of (by decide +kernel) (Nat.le_of_ble_eq_true rfl) ?_
  unfold fX9_wasOf at hf
  refine fr_loc (lv' := [(0, .ref (g.2.2.2 + 73)), (1, .int a1)]) [0, 1] rfl ?_
  refine fr_aload_n (pc := 0) dX9_wasOf_0 0 rfl rfl ?_
  obtain ⟨h2, hc1, hf⟩ := fd_bi hf
  refine fr_callVv (pc := 1) (av := []) dX9_wasOf_1 yy_X9_asTold kw_563 (by decide) rfl rfl rfl rfl (Nat.le_of_ble_eq_true rfl) ⟨Nat.le_of_ble_eq_true rfl, Nat.le_of_ble_eq_true rfl, Nat.zero_le _, Nat.zero_le _⟩ (sX9_asTold hc1) ?_
  refine fr_aload_n (pc := 4) dX9_wasOf_4 0 rfl rfl ?_
  refine fr_getR (pc := 5) dX9_wasOf_5 fl_X9_22 (by decide) rfl rfl ?_
  refine fr_iload_n (pc := 8) dX9_wasOf_8 1 rfl rfl ?_
  obtain ⟨g3, hf⟩ := fd_g_e hf
  refine vm_iald (pc := 9) dX9_wasOf_9 (by decide) (by decide) rfl g3 ?_
  obtain ⟨x4, ex4, hf⟩ := fd_lt_e hf
  refine fr_nmi ex4 ?_
  refine fr_istore_n (pc := 10) (lv' := [(2, .int x4), (0, .ref (g.2.2.2 + 73)), (1, .int a1)]) dX9_wasOf_10 rfl (by decide) rfl ?_
  refine fr_iconst (pc := 11) (v := (0 : Int32)) dX9_wasOf_11 (by decide) ?_
  refine fr_istore_n (pc := 12) (lv' := [(3, .int (0 : Int32)), (2, .int x4), (0, .ref (g.2.2.2 + 73)), (1, .int a1)]) dX9_wasOf_12 rfl (by decide) rfl ?_
  refine fr_iconst (pc := 13) (v := (0 : Int32)) dX9_wasOf_13 (by decide) ?_
  refine fr_istore (pc := 14) (lv' := [(4, .int (0 : Int32)), (3, .int (0 : Int32)), (2, .int x4), (0, .ref (g.2.2.2 + 73)), (1, .int a1)]) dX9_wasOf_14 (by decide) rfl ?_
  refine fr_loc (lv' := [(0, .ref (g.2.2.2 + 73)), (1, .int a1), (2, .int x4), (3, .int (0 : Int32)), (4, .int (0 : Int32))]) [3, 4, 2, 1, 0] rfl ?_
  exact sX9_wasOf_L16 _  _ _ _ _ hf
theorem dX9_carriedNow_0 : decode cX9_carriedNow 0 = .ok (.aload_n 0, 1) := by decide +kernel
theorem dX9_carriedNow_1 : decode cX9_carriedNow 1 = .ok (.invokevirtual 168, 3) := by decide +kernel
theorem dX9_carriedNow_4 : decode cX9_carriedNow 4 = .ok (.iconst 0, 1) := by decide +kernel
theorem dX9_carriedNow_5 : decode cX9_carriedNow 5 = .ok (.istore_n 1, 1) := by decide +kernel
theorem dX9_carriedNow_6 : decode cX9_carriedNow 6 = .ok (.iconst 0, 1) := by decide +kernel
theorem dX9_carriedNow_7 : decode cX9_carriedNow 7 = .ok (.istore_n 2, 1) := by decide +kernel
theorem dX9_carriedNow_8 : decode cX9_carriedNow 8 = .ok (.iload_n 2, 1) := by decide +kernel
theorem dX9_carriedNow_9 : decode cX9_carriedNow 9 = .ok (.aload_n 0, 1) := by decide +kernel
theorem dX9_carriedNow_10 : decode cX9_carriedNow 10 = .ok (.getfield 40, 3) := by decide +kernel
theorem dX9_carriedNow_13 : decode cX9_carriedNow 13 = .ok (.iconst 2, 1) := by decide +kernel
theorem dX9_carriedNow_14 : decode cX9_carriedNow 14 = .ok (.iaload, 1) := by decide +kernel
theorem dX9_carriedNow_15 : decode cX9_carriedNow 15 = .ok (.if_icmp .ge 31, 3) := by decide +kernel
theorem dX9_carriedNow_18 : decode cX9_carriedNow 18 = .ok (.aload_n 0, 1) := by decide +kernel
theorem dX9_carriedNow_19 : decode cX9_carriedNow 19 = .ok (.iload_n 2, 1) := by decide +kernel
theorem dX9_carriedNow_20 : decode cX9_carriedNow 20 = .ok (.putfield 156, 3) := by decide +kernel
theorem dX9_carriedNow_23 : decode cX9_carriedNow 23 = .ok (.iload_n 1, 1) := by decide +kernel
theorem dX9_carriedNow_24 : decode cX9_carriedNow 24 = .ok (.aload_n 0, 1) := by decide +kernel
theorem dX9_carriedNow_25 : decode cX9_carriedNow 25 = .ok (.invokevirtual 247, 3) := by decide +kernel
theorem dX9_carriedNow_28 : decode cX9_carriedNow 28 = .ok (.ifCond .eq 9, 3) := by decide +kernel
theorem dX9_carriedNow_31 : decode cX9_carriedNow 31 = .ok (.iconst 1, 1) := by decide +kernel
theorem dX9_carriedNow_32 : decode cX9_carriedNow 32 = .ok (.iload_n 2, 1) := by decide +kernel
theorem dX9_carriedNow_33 : decode cX9_carriedNow 33 = .ok (.ishl, 1) := by decide +kernel
theorem dX9_carriedNow_34 : decode cX9_carriedNow 34 = .ok (.goto 4, 3) := by decide +kernel
theorem dX9_carriedNow_37 : decode cX9_carriedNow 37 = .ok (.iconst 0, 1) := by decide +kernel
theorem dX9_carriedNow_38 : decode cX9_carriedNow 38 = .ok (.ior, 1) := by decide +kernel
theorem dX9_carriedNow_39 : decode cX9_carriedNow 39 = .ok (.istore_n 1, 1) := by decide +kernel
theorem dX9_carriedNow_40 : decode cX9_carriedNow 40 = .ok (.iinc 2 1, 3) := by decide +kernel
theorem dX9_carriedNow_43 : decode cX9_carriedNow 43 = .ok (.goto (-35), 3) := by decide +kernel
theorem dX9_carriedNow_46 : decode cX9_carriedNow 46 = .ok (.iload_n 1, 1) := by decide +kernel
theorem dX9_carriedNow_47 : decode cX9_carriedNow 47 = .ok (.ireturn, 1) := by decide +kernel
def fX9_carriedNow_L38  (K8 : Int32 → Int32 → fd_H → Option (Int32 × fd_H)) (v2 : Int32) (vs0 : Int32) (vs1 : Int32) (h : fd_H) : Option (Int32 × fd_H) :=
fd_lt ((vs1 ||| vs0)) fun x1 =>
K8 x1 (v2 + (1 : Int32)) h
set_option maxRecDepth 100000 in
set_option maxHeartbeats 4000000 in
theorem sX9_carriedNow_L38 {g : fd_G} {hm : fd_H} {r : Int32 × fd_H} {K8 : Int32 → Int32 → fd_H → Option (Int32 × fd_H)} (hK8 : ∀ (v1 : Int32) (v2 : Int32) (h : fd_H), K8 v1 v2 h = some r → fd_A g mX9_carriedNow fd_E (fd_rm 7 0 0) (fd_Q g (some (.int r.1)) fd_X0 (fd_mx hm r.2) 0 0) 8 [(0, .ref (g.2.2.2 + 73)), (1, .int v1), (2, .int v2)] [] fd_X0 (fd_mx hm h) 0 0) : ∀ (v2 : Int32) (vs0 : Int32) (vs1 : Int32) (h : fd_H), fX9_carriedNow_L38  K8 v2 vs0 vs1 h = some r → fd_A g mX9_carriedNow fd_E (fd_rm 7 0 0) (fd_Q g (some (.int r.1)) fd_X0 (fd_mx hm r.2) 0 0) 38 [(0, .ref (g.2.2.2 + 73)), (2, .int v2)] [.int vs0, .int vs1] fd_X0 (fd_mx hm h) 0 0 := by
  intro v2 vs0 vs1 h hf
  unfold fX9_carriedNow_L38 at hf
  refine fr_ior (pc := 38) dX9_carriedNow_38 ?_
  obtain ⟨x1, ex1, hf⟩ := fd_lt_e hf
  refine fr_nmi ex1 ?_
  refine fr_istore_n (pc := 39) (lv' := [(1, .int x1), (0, .ref (g.2.2.2 + 73)), (2, .int v2)]) dX9_carriedNow_39 rfl (by decide) rfl ?_
  refine fr_iinc (pc := 40) (v := (v2 + (1 : Int32))) (lv' := [(2, .int (v2 + (1 : Int32))), (1, .int x1), (0, .ref (g.2.2.2 + 73))]) dX9_carriedNow_40 2 rfl rfl (by decide) rfl ?_
  refine fr_goto (pc := 43) 8 dX9_carriedNow_43 (by decide) ?_
  refine fr_loc (lv' := [(0, .ref (g.2.2.2 + 73)), (1, .int x1), (2, .int (v2 + (1 : Int32)))]) [2, 1, 0] rfl ?_
  exact hK8 _ _ _ hf
def fX9_carriedNow_L8  : Nat → Int32 → Int32 → fd_H → Option (Int32 × fd_H)
  | 0 => fun _ _ _ => none
  | n + 1 => fun v1 v2 h =>
fd_g (fd_in (2 : Int32) 3) (
if (h.1 84 (2 : Int32).toNatClampNeg) ≤ v2 then (
some (v1, h))
else (
fd_lt (fd_ui h 73 18 v2) fun h3 =>
(fX9_isSeen h3).bind fun q5 =>
if q5.1 = true then (
fX9_carriedNow_L38  (fX9_carriedNow_L8  n) v2 ((1 : Int32) <<< (v2 &&& 31)) v1 q5.2)
else (
fX9_carriedNow_L38  (fX9_carriedNow_L8  n) v2 (0 : Int32) v1 q5.2)))
set_option maxRecDepth 100000 in
set_option maxHeartbeats 4000000 in
theorem sX9_carriedNow_L8 {g : fd_G} {hm : fd_H} {r : Int32 × fd_H} : ∀ (n : Nat) (v1 : Int32) (v2 : Int32) (h : fd_H), fX9_carriedNow_L8  n v1 v2 h = some r → fd_A g mX9_carriedNow fd_E (fd_rm 7 0 0) (fd_Q g (some (.int r.1)) fd_X0 (fd_mx hm r.2) 0 0) 8 [(0, .ref (g.2.2.2 + 73)), (1, .int v1), (2, .int v2)] [] fd_X0 (fd_mx hm h) 0 0 := by
  intro n
  induction n with
  | zero =>
    intro _ _ _ hf
    cases hf
  | succ n ih =>
    intro v1 v2 h hf
    rw [fX9_carriedNow_L8] at hf
    refine fr_iload_n (pc := 8) dX9_carriedNow_8 2 rfl rfl ?_
    refine fr_aload_n (pc := 9) dX9_carriedNow_9 0 rfl rfl ?_
    refine fr_getR (pc := 10) dX9_carriedNow_10 fl_X9_40 (by decide) rfl rfl ?_
    refine fr_iconst (pc := 13) (v := (2 : Int32)) dX9_carriedNow_13 (by decide) ?_
    obtain ⟨g1, hf⟩ := fd_g_e hf
    refine vm_iald (pc := 14) dX9_carriedNow_14 (by decide) (by decide) rfl g1 ?_
    refine fr_icmp_ge (pc := 15) 46 dX9_carriedNow_15 (by decide) (fun c2 => ?_) (fun c2 => ?_)
    · have hf := fd_t c2 hf
      refine fr_iload_n (pc := 46) dX9_carriedNow_46 1 rfl rfl ?_
      exact vm_iretW (x := v1) (pc := 47) dX9_carriedNow_47 rfl hf
    · have hf := fd_f c2 hf
      refine fr_aload_n (pc := 18) dX9_carriedNow_18 0 rfl rfl ?_
      refine fr_iload_n (pc := 19) dX9_carriedNow_19 2 rfl rfl ?_
      obtain ⟨h3, eh3, hf⟩ := fd_lt_e hf
      refine vm_putI (pc := 20) dX9_carriedNow_20 fl_X9_156 ft_X9_18 (by decide) (by decide) rfl rfl eh3 ?_
      refine fr_iload_n (pc := 23) dX9_carriedNow_23 1 rfl rfl ?_
      refine fr_aload_n (pc := 24) dX9_carriedNow_24 0 rfl rfl ?_
      obtain ⟨q5, hc4, hf⟩ := fd_bi hf
      refine fr_callVz (pc := 25) (av := []) dX9_carriedNow_25 yy_X9_isSeen kw_575 (by decide) rfl rfl rfl rfl (Nat.le_of_ble_eq_true rfl) ⟨Nat.le_of_ble_eq_true rfl, Nat.le_of_ble_eq_true rfl, Nat.zero_le _, Nat.zero_le _⟩ (sX9_isSeen hc4) ?_
      refine fr_bz (pc := 28) 37 dX9_carriedNow_28 (by decide) (fun c6 => ?_) (fun c6 => ?_)
      · have hf := fd_f c6 hf
        refine fr_iconst (pc := 37) (v := (0 : Int32)) dX9_carriedNow_37 (by decide) ?_
        refine fr_loc (lv' := [(0, .ref (g.2.2.2 + 73)), (2, .int v2)]) [0, 2] rfl ?_
        exact sX9_carriedNow_L38 ih  _ _ _ _ hf
      · have hf := fd_t c6 hf
        refine fr_iconst (pc := 31) (v := (1 : Int32)) dX9_carriedNow_31 (by decide) ?_
        refine fr_iload_n (pc := 32) dX9_carriedNow_32 2 rfl rfl ?_
        refine fr_ishl (pc := 33) dX9_carriedNow_33 ?_
        refine fr_goto (pc := 34) 38 dX9_carriedNow_34 (by decide) ?_
        refine fr_loc (lv' := [(0, .ref (g.2.2.2 + 73)), (2, .int v2)]) [0, 2] rfl ?_
        exact sX9_carriedNow_L38 ih  _ _ _ _ hf
def fX9_carriedNow  (h : fd_H) : Option (Int32 × fd_H) :=
(fX9_asTold h).bind fun h2 =>
fX9_carriedNow_L8  fd_fu (0 : Int32) (0 : Int32) h2
set_option maxRecDepth 100000 in
set_option maxHeartbeats 4000000 in
theorem sX9_carriedNow {g : fd_G} {hm : fd_H} {r : Int32 × fd_H} {h : fd_H} (hf : fX9_carriedNow  h = some r) : fd_S g mX9_carriedNow 7 [.ref (g.2.2.2 + 73)] fd_X0 (fd_mx hm h) (some (.int r.1)) fd_X0 (fd_mx hm r.2) 0 0 := by
  refine fd_S.of (by decide +kernel) (Nat.le_of_ble_eq_true rfl) ?_
  unfold fX9_carriedNow at hf
  refine fr_loc (lv' := [(0, .ref (g.2.2.2 + 73))]) [0] rfl ?_
  refine fr_aload_n (pc := 0) dX9_carriedNow_0 0 rfl rfl ?_
  obtain ⟨h2, hc1, hf⟩ := fd_bi hf
  refine fr_callVv (pc := 1) (av := []) dX9_carriedNow_1 yy_X9_asTold kw_563 (by decide) rfl rfl rfl rfl (Nat.le_of_ble_eq_true rfl) ⟨Nat.le_of_ble_eq_true rfl, Nat.le_of_ble_eq_true rfl, Nat.zero_le _, Nat.zero_le _⟩ (sX9_asTold hc1) ?_
  refine fr_iconst (pc := 4) (v := (0 : Int32)) dX9_carriedNow_4 (by decide) ?_
  refine fr_istore_n (pc := 5) (lv' := [(1, .int (0 : Int32)), (0, .ref (g.2.2.2 + 73))]) dX9_carriedNow_5 rfl (by decide) rfl ?_
  refine fr_iconst (pc := 6) (v := (0 : Int32)) dX9_carriedNow_6 (by decide) ?_
  refine fr_istore_n (pc := 7) (lv' := [(2, .int (0 : Int32)), (1, .int (0 : Int32)), (0, .ref (g.2.2.2 + 73))]) dX9_carriedNow_7 rfl (by decide) rfl ?_
  refine fr_loc (lv' := [(0, .ref (g.2.2.2 + 73)), (1, .int (0 : Int32)), (2, .int (0 : Int32))]) [2, 1, 0] rfl ?_
  exact sX9_carriedNow_L8 _  _ _ _ hf
theorem dX9_chanceOf_0 : decode cX9_chanceOf 0 = .ok (.aload_n 0, 1) := by decide +kernel
theorem dX9_chanceOf_1 : decode cX9_chanceOf 1 = .ok (.invokevirtual 168, 3) := by decide +kernel
theorem dX9_chanceOf_4 : decode cX9_chanceOf 4 = .ok (.lconst 1, 1) := by decide +kernel
theorem dX9_chanceOf_5 : decode cX9_chanceOf 5 = .ok (.lstore 5, 2) := by decide +kernel
theorem dX9_chanceOf_7 : decode cX9_chanceOf 7 = .ok (.lconst 1, 1) := by decide +kernel
theorem dX9_chanceOf_8 : decode cX9_chanceOf 8 = .ok (.lstore 7, 2) := by decide +kernel
theorem dX9_chanceOf_10 : decode cX9_chanceOf 10 = .ok (.iconst 0, 1) := by decide +kernel
theorem dX9_chanceOf_11 : decode cX9_chanceOf 11 = .ok (.istore 9, 2) := by decide +kernel
theorem dX9_chanceOf_13 : decode cX9_chanceOf 13 = .ok (.iload 9, 2) := by decide +kernel
theorem dX9_chanceOf_15 : decode cX9_chanceOf 15 = .ok (.iload_n 3, 1) := by decide +kernel
theorem dX9_chanceOf_16 : decode cX9_chanceOf 16 = .ok (.if_icmp .gt 60, 3) := by decide +kernel
theorem dX9_chanceOf_19 : decode cX9_chanceOf 19 = .ok (.iload 9, 2) := by decide +kernel
theorem dX9_chanceOf_21 : decode cX9_chanceOf 21 = .ok (.aload_n 0, 1) := by decide +kernel
theorem dX9_chanceOf_22 : decode cX9_chanceOf 22 = .ok (.getfield 117, 3) := by decide +kernel
theorem dX9_chanceOf_25 : decode cX9_chanceOf 25 = .ok (.if_icmp .ge 51, 3) := by decide +kernel
theorem dX9_chanceOf_28 : decode cX9_chanceOf 28 = .ok (.aload_n 0, 1) := by decide +kernel
theorem dX9_chanceOf_29 : decode cX9_chanceOf 29 = .ok (.iconst 2, 1) := by decide +kernel
theorem dX9_chanceOf_30 : decode cX9_chanceOf 30 = .ok (.iload 9, 2) := by decide +kernel
theorem dX9_chanceOf_32 : decode cX9_chanceOf 32 = .ok (.iload_n 2, 1) := by decide +kernel
theorem dX9_chanceOf_33 : decode cX9_chanceOf 33 = .ok (.invokevirtual 162, 3) := by decide +kernel
theorem dX9_chanceOf_36 : decode cX9_chanceOf 36 = .ok (.ifCond .eq 9, 3) := by decide +kernel
theorem dX9_chanceOf_39 : decode cX9_chanceOf 39 = .ok (.lconst 0, 1) := by decide +kernel
theorem dX9_chanceOf_40 : decode cX9_chanceOf 40 = .ok (.lstore 5, 2) := by decide +kernel
theorem dX9_chanceOf_42 : decode cX9_chanceOf 42 = .ok (.goto 28, 3) := by decide +kernel
theorem dX9_chanceOf_45 : decode cX9_chanceOf 45 = .ok (.aload_n 0, 1) := by decide +kernel
theorem dX9_chanceOf_46 : decode cX9_chanceOf 46 = .ok (.iload 9, 2) := by decide +kernel
theorem dX9_chanceOf_48 : decode cX9_chanceOf 48 = .ok (.iload_n 2, 1) := by decide +kernel
theorem dX9_chanceOf_49 : decode cX9_chanceOf 49 = .ok (.invokevirtual 165, 3) := by decide +kernel
theorem dX9_chanceOf_52 : decode cX9_chanceOf 52 = .ok (.ifCond .eq 18, 3) := by decide +kernel
theorem dX9_chanceOf_55 : decode cX9_chanceOf 55 = .ok (.lload 5, 2) := by decide +kernel
theorem dX9_chanceOf_57 : decode cX9_chanceOf 57 = .ok (.iload_n 1, 1) := by decide +kernel
theorem dX9_chanceOf_58 : decode cX9_chanceOf 58 = .ok (.i2l, 1) := by decide +kernel
theorem dX9_chanceOf_59 : decode cX9_chanceOf 59 = .ok (.lmul, 1) := by decide +kernel
theorem dX9_chanceOf_60 : decode cX9_chanceOf 60 = .ok (.lstore 5, 2) := by decide +kernel
theorem dX9_chanceOf_62 : decode cX9_chanceOf 62 = .ok (.lload 7, 2) := by decide +kernel
theorem dX9_chanceOf_64 : decode cX9_chanceOf 64 = .ok (.ldc2_w 263, 3) := by decide +kernel
theorem dX9_chanceOf_67 : decode cX9_chanceOf 67 = .ok (.lmul, 1) := by decide +kernel
theorem dX9_chanceOf_68 : decode cX9_chanceOf 68 = .ok (.lstore 7, 2) := by decide +kernel
theorem dX9_chanceOf_70 : decode cX9_chanceOf 70 = .ok (.iinc 9 1, 3) := by decide +kernel
theorem dX9_chanceOf_73 : decode cX9_chanceOf 73 = .ok (.goto (-60), 3) := by decide +kernel
theorem dX9_chanceOf_76 : decode cX9_chanceOf 76 = .ok (.lload 7, 2) := by decide +kernel
theorem dX9_chanceOf_78 : decode cX9_chanceOf 78 = .ok (.lload 5, 2) := by decide +kernel
theorem dX9_chanceOf_80 : decode cX9_chanceOf 80 = .ok (.lsub, 1) := by decide +kernel
theorem dX9_chanceOf_81 : decode cX9_chanceOf 81 = .ok (.lload 7, 2) := by decide +kernel
theorem dX9_chanceOf_83 : decode cX9_chanceOf 83 = .ok (.iload 4, 2) := by decide +kernel
theorem dX9_chanceOf_85 : decode cX9_chanceOf 85 = .ok (.invokestatic 265, 3) := by decide +kernel
theorem dX9_chanceOf_88 : decode cX9_chanceOf 88 = .ok (.lreturn, 1) := by decide +kernel
def fX9_chanceOf_L76 (a1 : Int32) (a2 : Int32) (a3 : Int32) (a4 : Int32) (v5 : Int64) (v7 : Int64) (h : fd_H) : Option (Int64 × fd_H) :=
(fX9_lowest (v7 - v5) v7 a4).bind fun r2 =>
some (r2, h)
set_option maxRecDepth 100000 in
set_option maxHeartbeats 4000000 in
theorem sX9_chanceOf_L76 {g : fd_G} {hm : fd_H} {a1 : Int32} {a2 : Int32} {a3 : Int32} {a4 : Int32} {r : Int64 × fd_H} : ∀ (v5 : Int64) (v7 : Int64) (h : fd_H), fX9_chanceOf_L76 a1 a2 a3 a4 v5 v7 h = some r → fd_A g mX9_chanceOf fd_E (fd_rm 7 0 0) (fd_Q g (some (.long r.1)) fd_X0 (fd_mx hm r.2) 0 0) 76 [(4, .int a4), (5, .long v5), (7, .long v7)] [] fd_X0 (fd_mx hm h) 0 0 := by
  intro v5 v7 h hf
  unfold fX9_chanceOf_L76 at hf
  refine fr_lload (pc := 76) dX9_chanceOf_76 2 rfl ?_
  refine fr_lload (pc := 78) dX9_chanceOf_78 1 rfl ?_
  refine fr_lsub (pc := 80) dX9_chanceOf_80 ?_
  refine fr_lload (pc := 81) dX9_chanceOf_81 2 rfl ?_
  refine fr_iload (pc := 83) dX9_chanceOf_83 0 rfl ?_
  obtain ⟨r2, hc1, hf⟩ := fd_bi hf
  refine fr_callSl (pc := 85) (av := [.long (v7 - v5), .long v7, .int a4]) dX9_chanceOf_85 yy_X9_lowest kw_579 rfl rfl (Nat.le_of_ble_eq_true rfl) ⟨Nat.le_of_ble_eq_true rfl, Nat.le_of_ble_eq_true rfl, Nat.zero_le _, Nat.zero_le _⟩ (sX9_lowest hc1) ?_
  exact vm_lretW (x := r2) (pc := 88) dX9_chanceOf_88 rfl hf
def fX9_chanceOf_L13 (a1 : Int32) (a2 : Int32) (a3 : Int32) (a4 : Int32) : Nat → Int64 → Int64 → Int32 → fd_H → Option (Int64 × fd_H)
  | 0 => fun _ _ _ _ => none
  | n + 1 => fun v5 v7 v9 h =>
if a3 < v9 then (
fX9_chanceOf_L76 a1 a2 a3 a4 v5 v7 h)
else (
if (h.1 73 5) ≤ v9 then (
fX9_chanceOf_L76 a1 a2 a3 a4 v5 v7 h)
else (
(fX9_isTold (2 : Int32) v9 a2 h).bind fun r4 =>
if r4 = true then (
fX9_chanceOf_L13 a1 a2 a3 a4 n (0 : Int64) v7 (v9 + (1 : Int32)) h)
else (
(fX9_isCold v9 a2 h).bind fun r7 =>
if r7 = true then (
fd_lt ((v5 * ((a1).toInt64))) fun x9 =>
fd_lt ((v7 * (16 : Int64))) fun x10 =>
fX9_chanceOf_L13 a1 a2 a3 a4 n x9 x10 (v9 + (1 : Int32)) h)
else (
fX9_chanceOf_L13 a1 a2 a3 a4 n v5 v7 (v9 + (1 : Int32)) h))))
set_option maxRecDepth 100000 in
set_option maxHeartbeats 4000000 in
theorem sX9_chanceOf_L13 {g : fd_G} {hm : fd_H} {a1 : Int32} {a2 : Int32} {a3 : Int32} {a4 : Int32} {r : Int64 × fd_H} : ∀ (n : Nat) (v5 : Int64) (v7 : Int64) (v9 : Int32) (h : fd_H), fX9_chanceOf_L13 a1 a2 a3 a4 n v5 v7 v9 h = some r → fd_A g mX9_chanceOf fd_E (fd_rm 7 0 0) (fd_Q g (some (.long r.1)) fd_X0 (fd_mx hm r.2) 0 0) 13 [(0, .ref (g.2.2.2 + 73)), (1, .int a1), (2, .int a2), (3, .int a3), (4, .int a4), (5, .long v5), (7, .long v7), (9, .int v9)] [] fd_X0 (fd_mx hm h) 0 0 := by
  intro n
  induction n with
  | zero =>
    intro _ _ _ _ hf
    cases hf
  | succ n ih =>
    intro v5 v7 v9 h hf
    rw [fX9_chanceOf_L13] at hf
    refine fr_iload (pc := 13) dX9_chanceOf_13 7 rfl ?_
    refine fr_iload_n (pc := 15) dX9_chanceOf_15 3 rfl rfl ?_
    refine fr_icmp_gt (pc := 16) 76 dX9_chanceOf_16 (by decide) (fun c1 => ?_) (fun c1 => ?_)
    · have hf := fd_t c1 hf
      refine fr_loc (lv' := [(4, .int a4), (5, .long v5), (7, .long v7)]) [4, 5, 6] rfl ?_
      exact sX9_chanceOf_L76  _ _ _ hf
    · have hf := fd_f c1 hf
      refine fr_iload (pc := 19) dX9_chanceOf_19 7 rfl ?_
      refine fr_aload_n (pc := 21) dX9_chanceOf_21 0 rfl rfl ?_
      refine vm_getI (pc := 22) dX9_chanceOf_22 fl_X9_117 (by decide) (by decide) rfl rfl ?_
      refine fr_icmp_ge (pc := 25) 76 dX9_chanceOf_25 (by decide) (fun c2 => ?_) (fun c2 => ?_)
      · have hf := fd_t c2 hf
        refine fr_loc (lv' := [(4, .int a4), (5, .long v5), (7, .long v7)]) [4, 5, 6] rfl ?_
        exact sX9_chanceOf_L76  _ _ _ hf
      · have hf := fd_f c2 hf
        refine fr_aload_n (pc := 28) dX9_chanceOf_28 0 rfl rfl ?_
        refine fr_iconst (pc := 29) (v := (2 : Int32)) dX9_chanceOf_29 (by decide) ?_
        refine fr_iload (pc := 30) dX9_chanceOf_30 7 rfl ?_
        refine fr_iload_n (pc := 32) dX9_chanceOf_32 2 rfl rfl ?_
        obtain ⟨r4, hc3, hf⟩ := fd_bi hf
        refine fr_callVz (pc := 33) (av := [.int (2 : Int32), .int v9, .int a2]) dX9_chanceOf_33 yy_X9_isTold kw_162 (by decide) rfl rfl rfl rfl (Nat.le_of_ble_eq_true rfl) ⟨Nat.le_of_ble_eq_true rfl, Nat.le_of_ble_eq_true rfl, Nat.zero_le _, Nat.zero_le _⟩ (sX9_isTold hc3) ?_
        refine fr_bz (pc := 36) 45 dX9_chanceOf_36 (by decide) (fun c5 => ?_) (fun c5 => ?_)
        · have hf := fd_f c5 hf
          refine fr_aload_n (pc := 45) dX9_chanceOf_45 0 rfl rfl ?_
          refine fr_iload (pc := 46) dX9_chanceOf_46 7 rfl ?_
          refine fr_iload_n (pc := 48) dX9_chanceOf_48 2 rfl rfl ?_
          obtain ⟨r7, hc6, hf⟩ := fd_bi hf
          refine fr_callVz (pc := 49) (av := [.int v9, .int a2]) dX9_chanceOf_49 yy_X9_isCold kw_254 (by decide) rfl rfl rfl rfl (Nat.le_of_ble_eq_true rfl) ⟨Nat.le_of_ble_eq_true rfl, Nat.le_of_ble_eq_true rfl, Nat.zero_le _, Nat.zero_le _⟩ (sX9_isCold hc6) ?_
          refine fr_bz (pc := 52) 70 dX9_chanceOf_52 (by decide) (fun c8 => ?_) (fun c8 => ?_)
          · have hf := fd_f c8 hf
            refine fr_iinc (pc := 70) (v := (v9 + (1 : Int32))) (lv' := [(9, .int (v9 + (1 : Int32))), (0, .ref (g.2.2.2 + 73)), (1, .int a1), (2, .int a2), (3, .int a3), (4, .int a4), (5, .long v5), (7, .long v7)]) dX9_chanceOf_70 7 rfl rfl (by decide) rfl ?_
            refine fr_goto (pc := 73) 13 dX9_chanceOf_73 (by decide) ?_
            refine fr_loc (lv' := [(0, .ref (g.2.2.2 + 73)), (1, .int a1), (2, .int a2), (3, .int a3), (4, .int a4), (5, .long v5), (7, .long v7), (9, .int (v9 + (1 : Int32)))]) [1, 2, 3, 4, 5, 6, 7, 0] rfl ?_
            exact ih _ _ _ _ hf
          · have hf := fd_t c8 hf
            refine fr_lload (pc := 55) dX9_chanceOf_55 5 rfl ?_
            refine fr_iload_n (pc := 57) dX9_chanceOf_57 1 rfl rfl ?_
            refine fr_i2l (pc := 58) dX9_chanceOf_58 ?_
            refine fr_lmul (pc := 59) dX9_chanceOf_59 ?_
            obtain ⟨x9, ex9, hf⟩ := fd_lt_e hf
            refine fr_nml ex9 ?_
            refine fr_lstore (pc := 60) (lv' := [(5, .long x9), (0, .ref (g.2.2.2 + 73)), (1, .int a1), (2, .int a2), (3, .int a3), (4, .int a4), (7, .long v7), (9, .int v9)]) dX9_chanceOf_60 (by decide) rfl ?_
            refine fr_lload (pc := 62) dX9_chanceOf_62 6 rfl ?_
            refine fr_ldc2 (pc := 64) (v := (16 : Int64)) dX9_chanceOf_64 kw_576 ?_
            refine fr_lmul (pc := 67) dX9_chanceOf_67 ?_
            obtain ⟨x10, ex10, hf⟩ := fd_lt_e hf
            refine fr_nml ex10 ?_
            refine fr_lstore (pc := 68) (lv' := [(7, .long x10), (5, .long x9), (0, .ref (g.2.2.2 + 73)), (1, .int a1), (2, .int a2), (3, .int a3), (4, .int a4), (9, .int v9)]) dX9_chanceOf_68 (by decide) rfl ?_
            refine fr_iinc (pc := 70) (v := (v9 + (1 : Int32))) (lv' := [(9, .int (v9 + (1 : Int32))), (7, .long x10), (5, .long x9), (0, .ref (g.2.2.2 + 73)), (1, .int a1), (2, .int a2), (3, .int a3), (4, .int a4)]) dX9_chanceOf_70 7 rfl rfl (by decide) rfl ?_
            refine fr_goto (pc := 73) 13 dX9_chanceOf_73 (by decide) ?_
            refine fr_loc (lv' := [(0, .ref (g.2.2.2 + 73)), (1, .int a1), (2, .int a2), (3, .int a3), (4, .int a4), (5, .long x9), (7, .long x10), (9, .int (v9 + (1 : Int32)))]) [3, 4, 5, 6, 7, 2, 1, 0] rfl ?_
            exact ih _ _ _ _ hf
        · have hf := fd_t c5 hf
          refine fr_lconst (pc := 39) (v := (0 : Int64)) dX9_chanceOf_39 (by decide) ?_
          refine fr_lstore (pc := 40) (lv' := [(5, .long (0 : Int64)), (0, .ref (g.2.2.2 + 73)), (1, .int a1), (2, .int a2), (3, .int a3), (4, .int a4), (7, .long v7), (9, .int v9)]) dX9_chanceOf_40 (by decide) rfl ?_
          refine fr_goto (pc := 42) 70 dX9_chanceOf_42 (by decide) ?_
          refine fr_iinc (pc := 70) (v := (v9 + (1 : Int32))) (lv' := [(9, .int (v9 + (1 : Int32))), (5, .long (0 : Int64)), (0, .ref (g.2.2.2 + 73)), (1, .int a1), (2, .int a2), (3, .int a3), (4, .int a4), (7, .long v7)]) dX9_chanceOf_70 7 rfl rfl (by decide) rfl ?_
          refine fr_goto (pc := 73) 13 dX9_chanceOf_73 (by decide) ?_
          refine fr_loc (lv' := [(0, .ref (g.2.2.2 + 73)), (1, .int a1), (2, .int a2), (3, .int a3), (4, .int a4), (5, .long (0 : Int64)), (7, .long v7), (9, .int (v9 + (1 : Int32)))]) [2, 3, 4, 5, 6, 1, 7, 0] rfl ?_
          exact ih _ _ _ _ hf
def fX9_chanceOf (a1 : Int32) (a2 : Int32) (a3 : Int32) (a4 : Int32) (h : fd_H) : Option (Int64 × fd_H) :=
(fX9_asTold h).bind fun h2 =>
fX9_chanceOf_L13 a1 a2 a3 a4 fd_fu (1 : Int64) (1 : Int64) (0 : Int32) h2
set_option maxRecDepth 100000 in
set_option maxHeartbeats 4000000 in
theorem sX9_chanceOf {g : fd_G} {hm : fd_H} {a1 : Int32} {a2 : Int32} {a3 : Int32} {a4 : Int32} {r : Int64 × fd_H} {h : fd_H} (hf : fX9_chanceOf a1 a2 a3 a4 h = some r) : fd_S g mX9_chanceOf 7 [.ref (g.2.2.2 + 73), .int a1, .int a2, .int a3, .int a4] fd_X0 (fd_mx hm h) (some (.long r.1)) fd_X0 (fd_mx hm r.2) 0 0 := by
  refine fd_S.of (by decide +kernel) (Nat.le_of_ble_eq_true rfl) ?_
  unfold fX9_chanceOf at hf
  refine fr_loc (lv' := [(0, .ref (g.2.2.2 + 73)), (1, .int a1), (2, .int a2), (3, .int a3), (4, .int a4)]) [0, 1, 2, 3, 4] rfl ?_
  refine fr_aload_n (pc := 0) dX9_chanceOf_0 0 rfl rfl ?_
  obtain ⟨h2, hc1, hf⟩ := fd_bi hf
  refine fr_callVv (pc := 1) (av := []) dX9_chanceOf_1 yy_X9_asTold kw_563 (by decide) rfl rfl rfl rfl (Nat.le_of_ble_eq_true rfl) ⟨Nat.le_of_ble_eq_true rfl, Nat.le_of_ble_eq_true rfl, Nat.zero_le _, Nat.zero_le _⟩ (sX9_asTold hc1) ?_
  refine fr_lconst (pc := 4) (v := (1 : Int64)) dX9_chanceOf_4 (by decide) ?_
  refine fr_lstore (pc := 5) (lv' := [(5, .long (1 : Int64)), (0, .ref (g.2.2.2 + 73)), (1, .int a1), (2, .int a2), (3, .int a3), (4, .int a4)]) dX9_chanceOf_5 (by decide) rfl ?_
  refine fr_lconst (pc := 7) (v := (1 : Int64)) dX9_chanceOf_7 (by decide) ?_
  refine fr_lstore (pc := 8) (lv' := [(7, .long (1 : Int64)), (5, .long (1 : Int64)), (0, .ref (g.2.2.2 + 73)), (1, .int a1), (2, .int a2), (3, .int a3), (4, .int a4)]) dX9_chanceOf_8 (by decide) rfl ?_
  refine fr_iconst (pc := 10) (v := (0 : Int32)) dX9_chanceOf_10 (by decide) ?_
  refine fr_istore (pc := 11) (lv' := [(9, .int (0 : Int32)), (7, .long (1 : Int64)), (5, .long (1 : Int64)), (0, .ref (g.2.2.2 + 73)), (1, .int a1), (2, .int a2), (3, .int a3), (4, .int a4)]) dX9_chanceOf_11 (by decide) rfl ?_
  refine fr_loc (lv' := [(0, .ref (g.2.2.2 + 73)), (1, .int a1), (2, .int a2), (3, .int a3), (4, .int a4), (5, .long (1 : Int64)), (7, .long (1 : Int64)), (9, .int (0 : Int32))]) [3, 4, 5, 6, 7, 2, 1, 0] rfl ?_
  exact sX9_chanceOf_L13 _  _ _ _ _ hf
theorem dX9_yearOf_0 : decode cX9_yearOf 0 = .ok (.aload_n 0, 1) := by decide +kernel
theorem dX9_yearOf_1 : decode cX9_yearOf 1 = .ok (.invokevirtual 168, 3) := by decide +kernel
theorem dX9_yearOf_4 : decode cX9_yearOf 4 = .ok (.iload_n 1, 1) := by decide +kernel
theorem dX9_yearOf_5 : decode cX9_yearOf 5 = .ok (.istore_n 3, 1) := by decide +kernel
theorem dX9_yearOf_6 : decode cX9_yearOf 6 = .ok (.iconst 0, 1) := by decide +kernel
theorem dX9_yearOf_7 : decode cX9_yearOf 7 = .ok (.istore 4, 2) := by decide +kernel
theorem dX9_yearOf_9 : decode cX9_yearOf 9 = .ok (.iload 4, 2) := by decide +kernel
theorem dX9_yearOf_11 : decode cX9_yearOf 11 = .ok (.aload_n 0, 1) := by decide +kernel
theorem dX9_yearOf_12 : decode cX9_yearOf 12 = .ok (.getfield 117, 3) := by decide +kernel
theorem dX9_yearOf_15 : decode cX9_yearOf 15 = .ok (.if_icmp .ge 40, 3) := by decide +kernel
theorem dX9_yearOf_18 : decode cX9_yearOf 18 = .ok (.ldc_w 277, 3) := by decide +kernel
theorem dX9_yearOf_21 : decode cX9_yearOf 21 = .ok (.iload_n 3, 1) := by decide +kernel
theorem dX9_yearOf_22 : decode cX9_yearOf 22 = .ok (.imul, 1) := by decide +kernel
theorem dX9_yearOf_23 : decode cX9_yearOf 23 = .ok (.sipush 12345, 3) := by decide +kernel
theorem dX9_yearOf_26 : decode cX9_yearOf 26 = .ok (.iadd, 1) := by decide +kernel
theorem dX9_yearOf_27 : decode cX9_yearOf 27 = .ok (.istore_n 3, 1) := by decide +kernel
theorem dX9_yearOf_28 : decode cX9_yearOf 28 = .ok (.aload_n 0, 1) := by decide +kernel
theorem dX9_yearOf_29 : decode cX9_yearOf 29 = .ok (.getfield 49, 3) := by decide +kernel
theorem dX9_yearOf_32 : decode cX9_yearOf 32 = .ok (.iload 4, 2) := by decide +kernel
theorem dX9_yearOf_34 : decode cX9_yearOf 34 = .ok (.iload_n 3, 1) := by decide +kernel
theorem dX9_yearOf_35 : decode cX9_yearOf 35 = .ok (.bipush 16, 2) := by decide +kernel
theorem dX9_yearOf_37 : decode cX9_yearOf 37 = .ok (.iushr, 1) := by decide +kernel
theorem dX9_yearOf_38 : decode cX9_yearOf 38 = .ok (.iconst 4, 1) := by decide +kernel
theorem dX9_yearOf_39 : decode cX9_yearOf 39 = .ok (.irem, 1) := by decide +kernel
theorem dX9_yearOf_40 : decode cX9_yearOf 40 = .ok (.ifCond .ne 7, 3) := by decide +kernel
theorem dX9_yearOf_43 : decode cX9_yearOf 43 = .ok (.iconst 1, 1) := by decide +kernel
theorem dX9_yearOf_44 : decode cX9_yearOf 44 = .ok (.goto 4, 3) := by decide +kernel
theorem dX9_yearOf_47 : decode cX9_yearOf 47 = .ok (.iconst 0, 1) := by decide +kernel
theorem dX9_yearOf_48 : decode cX9_yearOf 48 = .ok (.bastore, 1) := by decide +kernel
theorem dX9_yearOf_49 : decode cX9_yearOf 49 = .ok (.iinc 4 1, 3) := by decide +kernel
theorem dX9_yearOf_52 : decode cX9_yearOf 52 = .ok (.goto (-43), 3) := by decide +kernel
theorem dX9_yearOf_55 : decode cX9_yearOf 55 = .ok (.aload_n 0, 1) := by decide +kernel
theorem dX9_yearOf_56 : decode cX9_yearOf 56 = .ok (.invokevirtual 171, 3) := by decide +kernel
theorem dX9_yearOf_59 : decode cX9_yearOf 59 = .ok (.iconst 0, 1) := by decide +kernel
theorem dX9_yearOf_60 : decode cX9_yearOf 60 = .ok (.istore 4, 2) := by decide +kernel
theorem dX9_yearOf_62 : decode cX9_yearOf 62 = .ok (.iconst 0, 1) := by decide +kernel
theorem dX9_yearOf_63 : decode cX9_yearOf 63 = .ok (.istore 5, 2) := by decide +kernel
theorem dX9_yearOf_65 : decode cX9_yearOf 65 = .ok (.iload 5, 2) := by decide +kernel
theorem dX9_yearOf_67 : decode cX9_yearOf 67 = .ok (.aload_n 0, 1) := by decide +kernel
theorem dX9_yearOf_68 : decode cX9_yearOf 68 = .ok (.getfield 108, 3) := by decide +kernel
theorem dX9_yearOf_71 : decode cX9_yearOf 71 = .ok (.if_icmp .ge 37, 3) := by decide +kernel
theorem dX9_yearOf_74 : decode cX9_yearOf 74 = .ok (.iload 4, 2) := by decide +kernel
theorem dX9_yearOf_76 : decode cX9_yearOf 76 = .ok (.aload_n 0, 1) := by decide +kernel
theorem dX9_yearOf_77 : decode cX9_yearOf 77 = .ok (.iload 5, 2) := by decide +kernel
theorem dX9_yearOf_79 : decode cX9_yearOf 79 = .ok (.aload_n 0, 1) := by decide +kernel
theorem dX9_yearOf_80 : decode cX9_yearOf 80 = .ok (.getfield 34, 3) := by decide +kernel
theorem dX9_yearOf_83 : decode cX9_yearOf 83 = .ok (.iload 5, 2) := by decide +kernel
theorem dX9_yearOf_85 : decode cX9_yearOf 85 = .ok (.iaload, 1) := by decide +kernel
theorem dX9_yearOf_86 : decode cX9_yearOf 86 = .ok (.bipush 39, 2) := by decide +kernel
theorem dX9_yearOf_88 : decode cX9_yearOf 88 = .ok (.invokevirtual 192, 3) := by decide +kernel
theorem dX9_yearOf_91 : decode cX9_yearOf 91 = .ok (.ifCond .eq 7, 3) := by decide +kernel
theorem dX9_yearOf_94 : decode cX9_yearOf 94 = .ok (.iconst 1, 1) := by decide +kernel
theorem dX9_yearOf_95 : decode cX9_yearOf 95 = .ok (.goto 4, 3) := by decide +kernel
theorem dX9_yearOf_98 : decode cX9_yearOf 98 = .ok (.iconst 0, 1) := by decide +kernel
theorem dX9_yearOf_99 : decode cX9_yearOf 99 = .ok (.iadd, 1) := by decide +kernel
theorem dX9_yearOf_100 : decode cX9_yearOf 100 = .ok (.istore 4, 2) := by decide +kernel
theorem dX9_yearOf_102 : decode cX9_yearOf 102 = .ok (.iinc 5 1, 3) := by decide +kernel
theorem dX9_yearOf_105 : decode cX9_yearOf 105 = .ok (.goto (-40), 3) := by decide +kernel
theorem dX9_yearOf_108 : decode cX9_yearOf 108 = .ok (.iload_n 2, 1) := by decide +kernel
theorem dX9_yearOf_109 : decode cX9_yearOf 109 = .ok (.iconst (-1), 1) := by decide +kernel
theorem dX9_yearOf_110 : decode cX9_yearOf 110 = .ok (.if_icmp .ne 8, 3) := by decide +kernel
theorem dX9_yearOf_113 : decode cX9_yearOf 113 = .ok (.iload 4, 2) := by decide +kernel
theorem dX9_yearOf_115 : decode cX9_yearOf 115 = .ok (.goto 9, 3) := by decide +kernel
theorem dX9_yearOf_118 : decode cX9_yearOf 118 = .ok (.aload_n 0, 1) := by decide +kernel
theorem dX9_yearOf_119 : decode cX9_yearOf 119 = .ok (.getfield 53, 3) := by decide +kernel
theorem dX9_yearOf_122 : decode cX9_yearOf 122 = .ok (.iload_n 2, 1) := by decide +kernel
theorem dX9_yearOf_123 : decode cX9_yearOf 123 = .ok (.iaload, 1) := by decide +kernel
theorem dX9_yearOf_124 : decode cX9_yearOf 124 = .ok (.ireturn, 1) := by decide +kernel
def fX9_yearOf_L99 (a1 : Int32) (a2 : Int32) (K65 : Int32 → Int32 → fd_H → Option (Int32 × fd_H)) (v5 : Int32) (vs0 : Bool) (vs1 : Int32) (h : fd_H) : Option (Int32 × fd_H) :=
fd_lt ((vs1 + (fd_b vs0))) fun x1 =>
K65 x1 (v5 + (1 : Int32)) h
set_option maxRecDepth 100000 in
set_option maxHeartbeats 4000000 in
theorem sX9_yearOf_L99 {g : fd_G} {hm : fd_H} {a1 : Int32} {a2 : Int32} {r : Int32 × fd_H} {K65 : Int32 → Int32 → fd_H → Option (Int32 × fd_H)} (hK65 : ∀ (v4 : Int32) (v5 : Int32) (h : fd_H), K65 v4 v5 h = some r → fd_A g mX9_yearOf fd_E (fd_rm 7 0 0) (fd_Q g (some (.int r.1)) fd_X0 (fd_mx hm r.2) 0 0) 65 [(0, .ref (g.2.2.2 + 73)), (2, .int a2), (4, .int v4), (5, .int v5)] [] fd_X0 (fd_mx hm h) 0 0) : ∀ (v5 : Int32) (vs0 : Bool) (vs1 : Int32) (h : fd_H), fX9_yearOf_L99 a1 a2 K65 v5 vs0 vs1 h = some r → fd_A g mX9_yearOf fd_E (fd_rm 7 0 0) (fd_Q g (some (.int r.1)) fd_X0 (fd_mx hm r.2) 0 0) 99 [(0, .ref (g.2.2.2 + 73)), (2, .int a2), (5, .int v5)] [.int (fd_b vs0), .int vs1] fd_X0 (fd_mx hm h) 0 0 := by
  intro v5 vs0 vs1 h hf
  unfold fX9_yearOf_L99 at hf
  refine fr_iadd (pc := 99) dX9_yearOf_99 ?_
  obtain ⟨x1, ex1, hf⟩ := fd_lt_e hf
  refine fr_nmi ex1 ?_
  refine fr_istore (pc := 100) (lv' := [(4, .int x1), (0, .ref (g.2.2.2 + 73)), (2, .int a2), (5, .int v5)]) dX9_yearOf_100 (by decide) rfl ?_
  refine fr_iinc (pc := 102) (v := (v5 + (1 : Int32))) (lv' := [(5, .int (v5 + (1 : Int32))), (4, .int x1), (0, .ref (g.2.2.2 + 73)), (2, .int a2)]) dX9_yearOf_102 3 rfl rfl (by decide) rfl ?_
  refine fr_goto (pc := 105) 65 dX9_yearOf_105 (by decide) ?_
  refine fr_loc (lv' := [(0, .ref (g.2.2.2 + 73)), (2, .int a2), (4, .int x1), (5, .int (v5 + (1 : Int32)))]) [2, 3, 1, 0] rfl ?_
  exact hK65 _ _ _ hf
def fX9_yearOf_L65 (a1 : Int32) (a2 : Int32) : Nat → Int32 → Int32 → fd_H → Option (Int32 × fd_H)
  | 0 => fun _ _ _ => none
  | n + 1 => fun v4 v5 h =>
if (h.1 73 7) ≤ v5 then (
if a2 = (-1 : Int32) then (
some (v4, h))
else (
fd_g (fd_in a2 8) (
some ((h.1 88 a2.toNatClampNeg), h))))
else (
fd_g (fd_in v5 10) (
(fX9_isStanding v5 (h.1 82 v5.toNatClampNeg) (39 : Int32) h).bind fun r6 =>
if r6 = true then (
fX9_yearOf_L99 a1 a2 (fX9_yearOf_L65 a1 a2 n) v5 true v4 h)
else (
fX9_yearOf_L99 a1 a2 (fX9_yearOf_L65 a1 a2 n) v5 false v4 h)))
set_option maxRecDepth 100000 in
set_option maxHeartbeats 4000000 in
theorem sX9_yearOf_L65 {g : fd_G} {hm : fd_H} {a1 : Int32} {a2 : Int32} {r : Int32 × fd_H} : ∀ (n : Nat) (v4 : Int32) (v5 : Int32) (h : fd_H), fX9_yearOf_L65 a1 a2 n v4 v5 h = some r → fd_A g mX9_yearOf fd_E (fd_rm 7 0 0) (fd_Q g (some (.int r.1)) fd_X0 (fd_mx hm r.2) 0 0) 65 [(0, .ref (g.2.2.2 + 73)), (2, .int a2), (4, .int v4), (5, .int v5)] [] fd_X0 (fd_mx hm h) 0 0 := by
  intro n
  induction n with
  | zero =>
    intro _ _ _ hf
    cases hf
  | succ n ih =>
    intro v4 v5 h hf
    rw [fX9_yearOf_L65] at hf
    refine fr_iload (pc := 65) dX9_yearOf_65 3 rfl ?_
    refine fr_aload_n (pc := 67) dX9_yearOf_67 0 rfl rfl ?_
    refine vm_getI (pc := 68) dX9_yearOf_68 fl_X9_108 (by decide) (by decide) rfl rfl ?_
    refine fr_icmp_ge (pc := 71) 108 dX9_yearOf_71 (by decide) (fun c1 => ?_) (fun c1 => ?_)
    · have hf := fd_t c1 hf
      refine fr_iload_n (pc := 108) dX9_yearOf_108 1 rfl rfl ?_
      refine fr_iconst (pc := 109) (v := (-1 : Int32)) dX9_yearOf_109 (by decide) ?_
      refine fr_icmp_ne (pc := 110) 118 dX9_yearOf_110 (by decide) (fun c2 => ?_) (fun c2 => ?_)
      · have hf := fd_f c2 hf
        refine fr_aload_n (pc := 118) dX9_yearOf_118 0 rfl rfl ?_
        refine fr_getR (pc := 119) dX9_yearOf_119 fl_X9_53 (by decide) rfl rfl ?_
        refine fr_iload_n (pc := 122) dX9_yearOf_122 1 rfl rfl ?_
        obtain ⟨g3, hf⟩ := fd_g_e hf
        refine vm_iald (pc := 123) dX9_yearOf_123 (by decide) (by decide) rfl g3 ?_
        exact vm_iretW (x := (h.1 88 a2.toNatClampNeg)) (pc := 124) dX9_yearOf_124 rfl hf
      · have hf := fd_t c2 hf
        refine fr_iload (pc := 113) dX9_yearOf_113 2 rfl ?_
        refine fr_goto (pc := 115) 124 dX9_yearOf_115 (by decide) ?_
        exact vm_iretW (x := v4) (pc := 124) dX9_yearOf_124 rfl hf
    · have hf := fd_f c1 hf
      refine fr_iload (pc := 74) dX9_yearOf_74 2 rfl ?_
      refine fr_aload_n (pc := 76) dX9_yearOf_76 0 rfl rfl ?_
      refine fr_iload (pc := 77) dX9_yearOf_77 3 rfl ?_
      refine fr_aload_n (pc := 79) dX9_yearOf_79 0 rfl rfl ?_
      refine fr_getR (pc := 80) dX9_yearOf_80 fl_X9_34 (by decide) rfl rfl ?_
      refine fr_iload (pc := 83) dX9_yearOf_83 3 rfl ?_
      obtain ⟨g4, hf⟩ := fd_g_e hf
      refine vm_iald (pc := 85) dX9_yearOf_85 (by decide) (by decide) rfl g4 ?_
      refine fr_bipush (pc := 86) (v := (39 : Int32)) dX9_yearOf_86 (by decide) ?_
      obtain ⟨r6, hc5, hf⟩ := fd_bi hf
      refine fr_callVz (pc := 88) (av := [.int v5, .int (h.1 82 v5.toNatClampNeg), .int (39 : Int32)]) dX9_yearOf_88 yy_X9_isStanding kw_258 (by decide) rfl rfl rfl rfl (Nat.le_of_ble_eq_true rfl) ⟨Nat.le_of_ble_eq_true rfl, Nat.le_of_ble_eq_true rfl, Nat.zero_le _, Nat.zero_le _⟩ (sX9_isStanding hc5) ?_
      refine fr_bz (pc := 91) 98 dX9_yearOf_91 (by decide) (fun c7 => ?_) (fun c7 => ?_)
      · have hf := fd_f c7 hf
        refine fr_iconst (pc := 98) (v := (0 : Int32)) dX9_yearOf_98 (by decide) ?_
        refine fr_loc (lv' := [(0, .ref (g.2.2.2 + 73)), (2, .int a2), (5, .int v5)]) [0, 1, 3] rfl ?_
        exact sX9_yearOf_L99 ih  _ _ _ _ hf
      · have hf := fd_t c7 hf
        refine fr_iconst (pc := 94) (v := (1 : Int32)) dX9_yearOf_94 (by decide) ?_
        refine fr_goto (pc := 95) 99 dX9_yearOf_95 (by decide) ?_
        refine fr_loc (lv' := [(0, .ref (g.2.2.2 + 73)), (2, .int a2), (5, .int v5)]) [0, 1, 3] rfl ?_
        exact sX9_yearOf_L99 ih  _ _ _ _ hf
def fX9_yearOf_L48 (a1 : Int32) (a2 : Int32) (K9 : Int32 → Int32 → fd_H → Option (Int32 × fd_H)) (v3 : Int32) (v4 : Int32) (vs0 : Bool) (vs1 : Int32) (h : fd_H) : Option (Int32 × fd_H) :=
fd_g (fd_in vs1 40) (
fd_lt (fd_ui h 87 vs1.toNatClampNeg (fd_b vs0)) fun h2 =>
K9 v3 (v4 + (1 : Int32)) h2)
set_option maxRecDepth 100000 in
set_option maxHeartbeats 4000000 in
theorem sX9_yearOf_L48 {g : fd_G} {hm : fd_H} {a1 : Int32} {a2 : Int32} {r : Int32 × fd_H} {K9 : Int32 → Int32 → fd_H → Option (Int32 × fd_H)} (hK9 : ∀ (v3 : Int32) (v4 : Int32) (h : fd_H), K9 v3 v4 h = some r → fd_A g mX9_yearOf fd_E (fd_rm 7 0 0) (fd_Q g (some (.int r.1)) fd_X0 (fd_mx hm r.2) 0 0) 9 [(0, .ref (g.2.2.2 + 73)), (2, .int a2), (3, .int v3), (4, .int v4)] [] fd_X0 (fd_mx hm h) 0 0) : ∀ (v3 : Int32) (v4 : Int32) (vs0 : Bool) (vs1 : Int32) (h : fd_H), fX9_yearOf_L48 a1 a2 K9 v3 v4 vs0 vs1 h = some r → fd_A g mX9_yearOf fd_E (fd_rm 7 0 0) (fd_Q g (some (.int r.1)) fd_X0 (fd_mx hm r.2) 0 0) 48 [(0, .ref (g.2.2.2 + 73)), (2, .int a2), (3, .int v3), (4, .int v4)] [.int (fd_b vs0), .int vs1, .ref (g.2.2.2 + 87)] fd_X0 (fd_mx hm h) 0 0 := by
  intro v3 v4 vs0 vs1 h hf
  unfold fX9_yearOf_L48 at hf
  obtain ⟨g1, hf⟩ := fd_g_e hf
  obtain ⟨h2, eh2, hf⟩ := fd_lt_e hf
  refine vm_zast (x := vs0) (pc := 48) dX9_yearOf_48 (by decide) (by decide) rfl g1 eh2 ?_
  refine fr_iinc (pc := 49) (v := (v4 + (1 : Int32))) (lv' := [(4, .int (v4 + (1 : Int32))), (0, .ref (g.2.2.2 + 73)), (2, .int a2), (3, .int v3)]) dX9_yearOf_49 3 rfl rfl (by decide) rfl ?_
  refine fr_goto (pc := 52) 9 dX9_yearOf_52 (by decide) ?_
  refine fr_loc (lv' := [(0, .ref (g.2.2.2 + 73)), (2, .int a2), (3, .int v3), (4, .int (v4 + (1 : Int32)))]) [1, 2, 3, 0] rfl ?_
  exact hK9 _ _ _ hf
def fX9_yearOf_L9 (a1 : Int32) (a2 : Int32) : Nat → Int32 → Int32 → fd_H → Option (Int32 × fd_H)
  | 0 => fun _ _ _ => none
  | n + 1 => fun v3 v4 h =>
if (h.1 73 5) ≤ v4 then (
(fX9_lays h).bind fun h3 =>
fX9_yearOf_L65 a1 a2 fd_fu (0 : Int32) (0 : Int32) h3)
else (
fd_lt ((((1103515245 : Int32) * v3) + (12345 : Int32))) fun x4 =>
if (fd_irem (fd_iushr x4 (16 : Int32)) (4 : Int32)) = 0 then (
fX9_yearOf_L48 a1 a2 (fX9_yearOf_L9 a1 a2 n) x4 v4 true v4 h)
else (
fX9_yearOf_L48 a1 a2 (fX9_yearOf_L9 a1 a2 n) x4 v4 false v4 h))
set_option maxRecDepth 100000 in
set_option maxHeartbeats 4000000 in
theorem sX9_yearOf_L9 {g : fd_G} {hm : fd_H} {a1 : Int32} {a2 : Int32} {r : Int32 × fd_H} : ∀ (n : Nat) (v3 : Int32) (v4 : Int32) (h : fd_H), fX9_yearOf_L9 a1 a2 n v3 v4 h = some r → fd_A g mX9_yearOf fd_E (fd_rm 7 0 0) (fd_Q g (some (.int r.1)) fd_X0 (fd_mx hm r.2) 0 0) 9 [(0, .ref (g.2.2.2 + 73)), (2, .int a2), (3, .int v3), (4, .int v4)] [] fd_X0 (fd_mx hm h) 0 0 := by
  intro n
  induction n with
  | zero =>
    intro _ _ _ hf
    cases hf
  | succ n ih =>
    intro v3 v4 h hf
    rw [fX9_yearOf_L9] at hf
    refine fr_iload (pc := 9) dX9_yearOf_9 3 rfl ?_
    refine fr_aload_n (pc := 11) dX9_yearOf_11 0 rfl rfl ?_
    refine vm_getI (pc := 12) dX9_yearOf_12 fl_X9_117 (by decide) (by decide) rfl rfl ?_
    refine fr_icmp_ge (pc := 15) 55 dX9_yearOf_15 (by decide) (fun c1 => ?_) (fun c1 => ?_)
    · have hf := fd_t c1 hf
      refine fr_aload_n (pc := 55) dX9_yearOf_55 0 rfl rfl ?_
      obtain ⟨h3, hc2, hf⟩ := fd_bi hf
      refine fr_callVv (pc := 56) (av := []) dX9_yearOf_56 yy_X9_lays kw_356 (by decide) rfl rfl rfl rfl (Nat.le_of_ble_eq_true rfl) ⟨Nat.le_of_ble_eq_true rfl, Nat.le_of_ble_eq_true rfl, Nat.zero_le _, Nat.zero_le _⟩ (sX9_lays hc2) ?_
      refine fr_iconst (pc := 59) (v := (0 : Int32)) dX9_yearOf_59 (by decide) ?_
      refine fr_istore (pc := 60) (lv' := [(4, .int (0 : Int32)), (0, .ref (g.2.2.2 + 73)), (2, .int a2), (3, .int v3)]) dX9_yearOf_60 (by decide) rfl ?_
      refine fr_iconst (pc := 62) (v := (0 : Int32)) dX9_yearOf_62 (by decide) ?_
      refine fr_istore (pc := 63) (lv' := [(5, .int (0 : Int32)), (4, .int (0 : Int32)), (0, .ref (g.2.2.2 + 73)), (2, .int a2), (3, .int v3)]) dX9_yearOf_63 (by decide) rfl ?_
      refine fr_loc (lv' := [(0, .ref (g.2.2.2 + 73)), (2, .int a2), (4, .int (0 : Int32)), (5, .int (0 : Int32))]) [2, 3, 1, 0] rfl ?_
      exact sX9_yearOf_L65 _  _ _ _ hf
    · have hf := fd_f c1 hf
      refine fr_ldcw (pc := 18) (v := (1103515245 : Int32)) dX9_yearOf_18 kw_580 ?_
      refine fr_iload_n (pc := 21) dX9_yearOf_21 2 rfl rfl ?_
      refine fr_imul (pc := 22) dX9_yearOf_22 ?_
      refine fr_sipush (pc := 23) (v := (12345 : Int32)) dX9_yearOf_23 (by decide) ?_
      refine fr_iadd (pc := 26) dX9_yearOf_26 ?_
      obtain ⟨x4, ex4, hf⟩ := fd_lt_e hf
      refine fr_nmi ex4 ?_
      refine fr_istore_n (pc := 27) (lv' := [(3, .int x4), (0, .ref (g.2.2.2 + 73)), (2, .int a2), (4, .int v4)]) dX9_yearOf_27 rfl (by decide) rfl ?_
      refine fr_aload_n (pc := 28) dX9_yearOf_28 1 rfl rfl ?_
      refine fr_getR (pc := 29) dX9_yearOf_29 fl_X9_49 (by decide) rfl rfl ?_
      refine fr_iload (pc := 32) dX9_yearOf_32 3 rfl ?_
      refine fr_iload_n (pc := 34) dX9_yearOf_34 0 rfl rfl ?_
      refine fr_bipush (pc := 35) (v := (16 : Int32)) dX9_yearOf_35 (by decide) ?_
      refine fr_iushr (pc := 37) dX9_yearOf_37 ?_
      refine fr_iconst (pc := 38) (v := (4 : Int32)) dX9_yearOf_38 (by decide) ?_
      refine fr_irem (pc := 39) dX9_yearOf_39 (by decide) ?_
      refine fr_if_ne (pc := 40) 47 dX9_yearOf_40 (by decide) (fun c5 => ?_) (fun c5 => ?_)
      · have hf := fd_f c5 hf
        refine fr_iconst (pc := 47) (v := (0 : Int32)) dX9_yearOf_47 (by decide) ?_
        refine fr_loc (lv' := [(0, .ref (g.2.2.2 + 73)), (2, .int a2), (3, .int x4), (4, .int v4)]) [1, 2, 0, 3] rfl ?_
        exact sX9_yearOf_L48 ih  _ _ _ _ _ hf
      · have hf := fd_t c5 hf
        refine fr_iconst (pc := 43) (v := (1 : Int32)) dX9_yearOf_43 (by decide) ?_
        refine fr_goto (pc := 44) 48 dX9_yearOf_44 (by decide) ?_
        refine fr_loc (lv' := [(0, .ref (g.2.2.2 + 73)), (2, .int a2), (3, .int x4), (4, .int v4)]) [1, 2, 0, 3] rfl ?_
        exact sX9_yearOf_L48 ih  _ _ _ _ _ hf
def fX9_yearOf (a1 : Int32) (a2 : Int32) (h : fd_H) : Option (Int32 × fd_H) :=
(fX9_asTold h).bind fun h2 =>
fX9_yearOf_L9 a1 a2 fd_fu a1 (0 : Int32) h2
set_option maxRecDepth 100000 in
set_option maxHeartbeats 4000000 in
theorem sX9_yearOf {g : fd_G} {hm : fd_H} {a1 : Int32} {a2 : Int32} {r : Int32 × fd_H} {h : fd_H} (hf : fX9_yearOf a1 a2 h = some r) : fd_S g mX9_yearOf 7 [.ref (g.2.2.2 + 73), .int a1, .int a2] fd_X0 (fd_mx hm h) (some (.int r.1)) fd_X0 (fd_mx hm r.2) 0 0 := by
  refine fd_S.of (by decide +kernel) (Nat.le_of_ble_eq_true rfl) ?_
  unfold fX9_yearOf at hf
  refine fr_loc (lv' := [(0, .ref (g.2.2.2 + 73)), (1, .int a1), (2, .int a2)]) [0, 1, 2] rfl ?_
  refine fr_aload_n (pc := 0) dX9_yearOf_0 0 rfl rfl ?_
  obtain ⟨h2, hc1, hf⟩ := fd_bi hf
  refine fr_callVv (pc := 1) (av := []) dX9_yearOf_1 yy_X9_asTold kw_563 (by decide) rfl rfl rfl rfl (Nat.le_of_ble_eq_true rfl) ⟨Nat.le_of_ble_eq_true rfl, Nat.le_of_ble_eq_true rfl, Nat.zero_le _, Nat.zero_le _⟩ (sX9_asTold hc1) ?_
  refine fr_iload_n (pc := 4) dX9_yearOf_4 1 rfl rfl ?_
  refine fr_istore_n (pc := 5) (lv' := [(3, .int a1), (0, .ref (g.2.2.2 + 73)), (1, .int a1), (2, .int a2)]) dX9_yearOf_5 rfl (by decide) rfl ?_
  refine fr_iconst (pc := 6) (v := (0 : Int32)) dX9_yearOf_6 (by decide) ?_
  refine fr_istore (pc := 7) (lv' := [(4, .int (0 : Int32)), (3, .int a1), (0, .ref (g.2.2.2 + 73)), (1, .int a1), (2, .int a2)]) dX9_yearOf_7 (by decide) rfl ?_
  refine fr_loc (lv' := [(0, .ref (g.2.2.2 + 73)), (2, .int a2), (3, .int a1), (4, .int (0 : Int32))]) [2, 4, 1, 0] rfl ?_
  exact sX9_yearOf_L9 _  _ _ _ hf
theorem dX9_count_0 : decode cX9_count 0 = .ok (.iload_n 1, 1) := by decide +kernel
theorem dX9_count_1 : decode cX9_count 1 = .ok (.tableswitch 97 0 8 #[51, 51, 51, 57, 57, 57, 66, 87, 92], 51) := by decide +kernel
theorem dX9_count_52 : decode cX9_count 52 = .ok (.aload_n 0, 1) := by decide +kernel
theorem dX9_count_53 : decode cX9_count 53 = .ok (.iload_n 1, 1) := by decide +kernel
theorem dX9_count_54 : decode cX9_count 54 = .ok (.invokevirtual 295, 3) := by decide +kernel
theorem dX9_count_57 : decode cX9_count 57 = .ok (.ireturn, 1) := by decide +kernel
theorem dX9_count_58 : decode cX9_count 58 = .ok (.aload_n 0, 1) := by decide +kernel
theorem dX9_count_59 : decode cX9_count 59 = .ok (.getfield 7, 3) := by decide +kernel
theorem dX9_count_62 : decode cX9_count 62 = .ok (.iload_n 1, 1) := by decide +kernel
theorem dX9_count_63 : decode cX9_count 63 = .ok (.iconst 3, 1) := by decide +kernel
theorem dX9_count_64 : decode cX9_count 64 = .ok (.isub, 1) := by decide +kernel
theorem dX9_count_65 : decode cX9_count 65 = .ok (.iaload, 1) := by decide +kernel
theorem dX9_count_66 : decode cX9_count 66 = .ok (.ireturn, 1) := by decide +kernel
theorem dX9_count_67 : decode cX9_count 67 = .ok (.aload_n 0, 1) := by decide +kernel
theorem dX9_count_68 : decode cX9_count 68 = .ok (.getfield 40, 3) := by decide +kernel
theorem dX9_count_71 : decode cX9_count 71 = .ok (.iconst 0, 1) := by decide +kernel
theorem dX9_count_72 : decode cX9_count 72 = .ok (.iaload, 1) := by decide +kernel
theorem dX9_count_73 : decode cX9_count 73 = .ok (.aload_n 0, 1) := by decide +kernel
theorem dX9_count_74 : decode cX9_count 74 = .ok (.getfield 40, 3) := by decide +kernel
theorem dX9_count_77 : decode cX9_count 77 = .ok (.iconst 1, 1) := by decide +kernel
theorem dX9_count_78 : decode cX9_count 78 = .ok (.iaload, 1) := by decide +kernel
theorem dX9_count_79 : decode cX9_count 79 = .ok (.iadd, 1) := by decide +kernel
theorem dX9_count_80 : decode cX9_count 80 = .ok (.aload_n 0, 1) := by decide +kernel
theorem dX9_count_81 : decode cX9_count 81 = .ok (.getfield 40, 3) := by decide +kernel
theorem dX9_count_84 : decode cX9_count 84 = .ok (.iconst 2, 1) := by decide +kernel
theorem dX9_count_85 : decode cX9_count 85 = .ok (.iaload, 1) := by decide +kernel
theorem dX9_count_86 : decode cX9_count 86 = .ok (.iadd, 1) := by decide +kernel
theorem dX9_count_87 : decode cX9_count 87 = .ok (.ireturn, 1) := by decide +kernel
theorem dX9_count_88 : decode cX9_count 88 = .ok (.aload_n 0, 1) := by decide +kernel
theorem dX9_count_89 : decode cX9_count 89 = .ok (.getfield 235, 3) := by decide +kernel
theorem dX9_count_92 : decode cX9_count 92 = .ok (.ireturn, 1) := by decide +kernel
theorem dX9_count_93 : decode cX9_count 93 = .ok (.aload_n 0, 1) := by decide +kernel
theorem dX9_count_94 : decode cX9_count 94 = .ok (.getfield 281, 3) := by decide +kernel
theorem dX9_count_97 : decode cX9_count 97 = .ok (.ireturn, 1) := by decide +kernel
theorem dX9_count_98 : decode cX9_count 98 = .ok (.bipush (-2), 2) := by decide +kernel
theorem dX9_count_100 : decode cX9_count 100 = .ok (.ireturn, 1) := by decide +kernel
def fX9_count (a1 : Int32) (h : fd_H) : Option (Int32 × fd_H) :=
if a1 = (0 : Int32) then (
(fX9_partsMany a1 h).bind fun q3 =>
some (q3.1, q3.2))
else (if a1 = (1 : Int32) then (
(fX9_partsMany a1 h).bind fun q6 =>
some (q6.1, q6.2))
else (if a1 = (2 : Int32) then (
(fX9_partsMany a1 h).bind fun q9 =>
some (q9.1, q9.2))
else (if a1 = (3 : Int32) then (
fd_g (fd_in (a1 - (3 : Int32)) 3) (
some ((h.1 74 (a1 - (3 : Int32)).toNatClampNeg), h)))
else (if a1 = (4 : Int32) then (
fd_g (fd_in (a1 - (3 : Int32)) 3) (
some ((h.1 74 (a1 - (3 : Int32)).toNatClampNeg), h)))
else (if a1 = (5 : Int32) then (
fd_g (fd_in (a1 - (3 : Int32)) 3) (
some ((h.1 74 (a1 - (3 : Int32)).toNatClampNeg), h)))
else (if a1 = (6 : Int32) then (
fd_g (fd_in (0 : Int32) 3) (
fd_g (fd_in (1 : Int32) 3) (
fd_g (fd_in (2 : Int32) 3) (
some ((((h.1 84 (0 : Int32).toNatClampNeg) + (h.1 84 (1 : Int32).toNatClampNeg)) + (h.1 84 (2 : Int32).toNatClampNeg)), h)))))
else (if a1 = (7 : Int32) then (
some ((h.1 73 21), h))
else (if a1 = (8 : Int32) then (
some ((h.1 73 30), h))
else (some ((-2 : Int32), h))))))))))
set_option maxRecDepth 100000 in
set_option maxHeartbeats 4000000 in
theorem sX9_count {g : fd_G} {hm : fd_H} {a1 : Int32} {r : Int32 × fd_H} {h : fd_H} (hf : fX9_count a1 h = some r) : fd_S g mX9_count 7 [.ref (g.2.2.2 + 73), .int a1] fd_X0 (fd_mx hm h) (some (.int r.1)) fd_X0 (fd_mx hm r.2) 0 0 := by
  refine fd_S.of (by decide +kernel) (Nat.le_of_ble_eq_true rfl) ?_
  unfold fX9_count at hf
  refine fr_loc (lv' := [(0, .ref (g.2.2.2 + 73)), (1, .int a1)]) [0, 1] rfl ?_
  refine fr_iload_n (pc := 0) dX9_count_0 1 rfl rfl ?_
  rcases Decidable.em (a1 = (0 : Int32)) with c1 | c1
  · have hf := fd_t c1 hf
    refine fr_tabIn (pc := 1) 52 dX9_count_1 (by rw [c1]; decide) (by rw [c1]; decide) (by rw [c1]; rfl) (by decide) ?_
    refine fr_aload_n (pc := 52) dX9_count_52 0 rfl rfl ?_
    refine fr_iload_n (pc := 53) dX9_count_53 1 rfl rfl ?_
    obtain ⟨q3, hc2, hf⟩ := fd_bi hf
    refine fr_callVi (pc := 54) (av := [.int a1]) dX9_count_54 yy_X9_partsMany kw_584 (by decide) rfl rfl rfl rfl (Nat.le_of_ble_eq_true rfl) ⟨Nat.le_of_ble_eq_true rfl, Nat.le_of_ble_eq_true rfl, Nat.zero_le _, Nat.zero_le _⟩ (sX9_partsMany hc2) ?_
    exact vm_iretW (x := q3.1) (pc := 57) dX9_count_57 rfl hf
  · have hf := fd_f c1 hf
    rcases Decidable.em (a1 = (1 : Int32)) with c4 | c4
    · have hf := fd_t c4 hf
      refine fr_tabIn (pc := 1) 52 dX9_count_1 (by rw [c4]; decide) (by rw [c4]; decide) (by rw [c4]; rfl) (by decide) ?_
      refine fr_aload_n (pc := 52) dX9_count_52 0 rfl rfl ?_
      refine fr_iload_n (pc := 53) dX9_count_53 1 rfl rfl ?_
      obtain ⟨q6, hc5, hf⟩ := fd_bi hf
      refine fr_callVi (pc := 54) (av := [.int a1]) dX9_count_54 yy_X9_partsMany kw_584 (by decide) rfl rfl rfl rfl (Nat.le_of_ble_eq_true rfl) ⟨Nat.le_of_ble_eq_true rfl, Nat.le_of_ble_eq_true rfl, Nat.zero_le _, Nat.zero_le _⟩ (sX9_partsMany hc5) ?_
      exact vm_iretW (x := q6.1) (pc := 57) dX9_count_57 rfl hf
    · have hf := fd_f c4 hf
      rcases Decidable.em (a1 = (2 : Int32)) with c7 | c7
      · have hf := fd_t c7 hf
        refine fr_tabIn (pc := 1) 52 dX9_count_1 (by rw [c7]; decide) (by rw [c7]; decide) (by rw [c7]; rfl) (by decide) ?_
        refine fr_aload_n (pc := 52) dX9_count_52 0 rfl rfl ?_
        refine fr_iload_n (pc := 53) dX9_count_53 1 rfl rfl ?_
        obtain ⟨q9, hc8, hf⟩ := fd_bi hf
        refine fr_callVi (pc := 54) (av := [.int a1]) dX9_count_54 yy_X9_partsMany kw_584 (by decide) rfl rfl rfl rfl (Nat.le_of_ble_eq_true rfl) ⟨Nat.le_of_ble_eq_true rfl, Nat.le_of_ble_eq_true rfl, Nat.zero_le _, Nat.zero_le _⟩ (sX9_partsMany hc8) ?_
        exact vm_iretW (x := q9.1) (pc := 57) dX9_count_57 rfl hf
      · have hf := fd_f c7 hf
        rcases Decidable.em (a1 = (3 : Int32)) with c10 | c10
        · have hf := fd_t c10 hf
          refine fr_tabIn (pc := 1) 58 dX9_count_1 (by rw [c10]; decide) (by rw [c10]; decide) (by rw [c10]; rfl) (by decide) ?_
          refine fr_aload_n (pc := 58) dX9_count_58 0 rfl rfl ?_
          refine fr_getR (pc := 59) dX9_count_59 fl_X9_7 (by decide) rfl rfl ?_
          refine fr_iload_n (pc := 62) dX9_count_62 1 rfl rfl ?_
          refine fr_iconst (pc := 63) (v := (3 : Int32)) dX9_count_63 (by decide) ?_
          refine fr_isub (pc := 64) dX9_count_64 ?_
          obtain ⟨g11, hf⟩ := fd_g_e hf
          refine vm_iald (pc := 65) dX9_count_65 (by decide) (by decide) rfl g11 ?_
          exact vm_iretW (x := (h.1 74 (a1 - (3 : Int32)).toNatClampNeg)) (pc := 66) dX9_count_66 rfl hf
        · have hf := fd_f c10 hf
          rcases Decidable.em (a1 = (4 : Int32)) with c12 | c12
          · have hf := fd_t c12 hf
            refine fr_tabIn (pc := 1) 58 dX9_count_1 (by rw [c12]; decide) (by rw [c12]; decide) (by rw [c12]; rfl) (by decide) ?_
            refine fr_aload_n (pc := 58) dX9_count_58 0 rfl rfl ?_
            refine fr_getR (pc := 59) dX9_count_59 fl_X9_7 (by decide) rfl rfl ?_
            refine fr_iload_n (pc := 62) dX9_count_62 1 rfl rfl ?_
            refine fr_iconst (pc := 63) (v := (3 : Int32)) dX9_count_63 (by decide) ?_
            refine fr_isub (pc := 64) dX9_count_64 ?_
            obtain ⟨g13, hf⟩ := fd_g_e hf
            refine vm_iald (pc := 65) dX9_count_65 (by decide) (by decide) rfl g13 ?_
            exact vm_iretW (x := (h.1 74 (a1 - (3 : Int32)).toNatClampNeg)) (pc := 66) dX9_count_66 rfl hf
          · have hf := fd_f c12 hf
            rcases Decidable.em (a1 = (5 : Int32)) with c14 | c14
            · have hf := fd_t c14 hf
              refine fr_tabIn (pc := 1) 58 dX9_count_1 (by rw [c14]; decide) (by rw [c14]; decide) (by rw [c14]; rfl) (by decide) ?_
              refine fr_aload_n (pc := 58) dX9_count_58 0 rfl rfl ?_
              refine fr_getR (pc := 59) dX9_count_59 fl_X9_7 (by decide) rfl rfl ?_
              refine fr_iload_n (pc := 62) dX9_count_62 1 rfl rfl ?_
              refine fr_iconst (pc := 63) (v := (3 : Int32)) dX9_count_63 (by decide) ?_
              refine fr_isub (pc := 64) dX9_count_64 ?_
              obtain ⟨g15, hf⟩ := fd_g_e hf
              refine vm_iald (pc := 65) dX9_count_65 (by decide) (by decide) rfl g15 ?_
              exact vm_iretW (x := (h.1 74 (a1 - (3 : Int32)).toNatClampNeg)) (pc := 66) dX9_count_66 rfl hf
            · have hf := fd_f c14 hf
              rcases Decidable.em (a1 = (6 : Int32)) with c16 | c16
              · have hf := fd_t c16 hf
                refine fr_tabIn (pc := 1) 67 dX9_count_1 (by rw [c16]; decide) (by rw [c16]; decide) (by rw [c16]; rfl) (by decide) ?_
                refine fr_aload_n (pc := 67) dX9_count_67 0 rfl rfl ?_
                refine fr_getR (pc := 68) dX9_count_68 fl_X9_40 (by decide) rfl rfl ?_
                refine fr_iconst (pc := 71) (v := (0 : Int32)) dX9_count_71 (by decide) ?_
                obtain ⟨g17, hf⟩ := fd_g_e hf
                refine vm_iald (pc := 72) dX9_count_72 (by decide) (by decide) rfl g17 ?_
                refine fr_aload_n (pc := 73) dX9_count_73 0 rfl rfl ?_
                refine fr_getR (pc := 74) dX9_count_74 fl_X9_40 (by decide) rfl rfl ?_
                refine fr_iconst (pc := 77) (v := (1 : Int32)) dX9_count_77 (by decide) ?_
                obtain ⟨g18, hf⟩ := fd_g_e hf
                refine vm_iald (pc := 78) dX9_count_78 (by decide) (by decide) rfl g18 ?_
                refine fr_iadd (pc := 79) dX9_count_79 ?_
                refine fr_aload_n (pc := 80) dX9_count_80 0 rfl rfl ?_
                refine fr_getR (pc := 81) dX9_count_81 fl_X9_40 (by decide) rfl rfl ?_
                refine fr_iconst (pc := 84) (v := (2 : Int32)) dX9_count_84 (by decide) ?_
                obtain ⟨g19, hf⟩ := fd_g_e hf
                refine vm_iald (pc := 85) dX9_count_85 (by decide) (by decide) rfl g19 ?_
                refine fr_iadd (pc := 86) dX9_count_86 ?_
                exact vm_iretW (x := (((h.1 84 (0 : Int32).toNatClampNeg) + (h.1 84 (1 : Int32).toNatClampNeg)) + (h.1 84 (2 : Int32).toNatClampNeg))) (pc := 87) dX9_count_87 rfl hf
              · have hf := fd_f c16 hf
                rcases Decidable.em (a1 = (7 : Int32)) with c20 | c20
                · have hf := fd_t c20 hf
                  refine fr_tabIn (pc := 1) 88 dX9_count_1 (by rw [c20]; decide) (by rw [c20]; decide) (by rw [c20]; rfl) (by decide) ?_
                  refine fr_aload_n (pc := 88) dX9_count_88 0 rfl rfl ?_
                  refine vm_getI (pc := 89) dX9_count_89 fl_X9_235 (by decide) (by decide) rfl rfl ?_
                  exact vm_iretW (x := (h.1 73 21)) (pc := 92) dX9_count_92 rfl hf
                · have hf := fd_f c20 hf
                  rcases Decidable.em (a1 = (8 : Int32)) with c21 | c21
                  · have hf := fd_t c21 hf
                    refine fr_tabIn (pc := 1) 93 dX9_count_1 (by rw [c21]; decide) (by rw [c21]; decide) (by rw [c21]; rfl) (by decide) ?_
                    refine fr_aload_n (pc := 93) dX9_count_93 0 rfl rfl ?_
                    refine vm_getI (pc := 94) dX9_count_94 fl_X9_281 (by decide) (by decide) rfl rfl ?_
                    exact vm_iretW (x := (h.1 73 30)) (pc := 97) dX9_count_97 rfl hf
                  · have hf := fd_f c21 hf
                    have tc1 : ¬ (a1).toInt = 0 := lv_neT c1 rfl
                    have tc4 : ¬ (a1).toInt = 1 := lv_neT c4 rfl
                    have tc7 : ¬ (a1).toInt = 2 := lv_neT c7 rfl
                    have tc10 : ¬ (a1).toInt = 3 := lv_neT c10 rfl
                    have tc12 : ¬ (a1).toInt = 4 := lv_neT c12 rfl
                    have tc14 : ¬ (a1).toInt = 5 := lv_neT c14 rfl
                    have tc16 : ¬ (a1).toInt = 6 := lv_neT c16 rfl
                    have tc20 : ¬ (a1).toInt = 7 := lv_neT c20 rfl
                    have tc21 : ¬ (a1).toInt = 8 := lv_neT c21 rfl
                    refine fr_tabOut (pc := 1) 98 dX9_count_1 (by omega) (by decide) ?_
                    refine fr_bipush (pc := 98) (v := (-2 : Int32)) dX9_count_98 (by decide) ?_
                    exact vm_iretW (x := (-2 : Int32)) (pc := 100) dX9_count_100 rfl hf
theorem dX9_freezes_0 : decode cX9_freezes 0 = .ok (.aload_n 0, 1) := by decide +kernel
theorem dX9_freezes_1 : decode cX9_freezes 1 = .ok (.iload_n 1, 1) := by decide +kernel
theorem dX9_freezes_2 : decode cX9_freezes 2 = .ok (.invokevirtual 137, 3) := by decide +kernel
theorem dX9_freezes_5 : decode cX9_freezes 5 = .ok (.ifCond .eq 20, 3) := by decide +kernel
theorem dX9_freezes_8 : decode cX9_freezes 8 = .ok (.aload_n 0, 1) := by decide +kernel
theorem dX9_freezes_9 : decode cX9_freezes 9 = .ok (.iload_n 2, 1) := by decide +kernel
theorem dX9_freezes_10 : decode cX9_freezes 10 = .ok (.invokevirtual 134, 3) := by decide +kernel
theorem dX9_freezes_13 : decode cX9_freezes 13 = .ok (.ifCond .eq 12, 3) := by decide +kernel
theorem dX9_freezes_16 : decode cX9_freezes 16 = .ok (.aload_n 0, 1) := by decide +kernel
theorem dX9_freezes_17 : decode cX9_freezes 17 = .ok (.iload_n 1, 1) := by decide +kernel
theorem dX9_freezes_18 : decode cX9_freezes 18 = .ok (.iload_n 2, 1) := by decide +kernel
theorem dX9_freezes_19 : decode cX9_freezes 19 = .ok (.invokevirtual 177, 3) := by decide +kernel
theorem dX9_freezes_22 : decode cX9_freezes 22 = .ok (.goto 5, 3) := by decide +kernel
theorem dX9_freezes_25 : decode cX9_freezes 25 = .ok (.bipush (-2), 2) := by decide +kernel
theorem dX9_freezes_27 : decode cX9_freezes 27 = .ok (.ireturn, 1) := by decide +kernel
def fX9_freezes (a1 : Int32) (a2 : Int32) (h : fd_H) : Option (Int32 × fd_H) :=
(fX9_isNight a1 h).bind fun q2 =>
if q2.1 = true then (
(fX9_isPlace a2 q2.2).bind fun q5 =>
if q5.1 = true then (
(fX9_freezesOf a1 a2 q5.2).bind fun q8 =>
some (q8.1, q8.2))
else (
some ((-2 : Int32), q5.2)))
else (
some ((-2 : Int32), q2.2))
set_option maxRecDepth 100000 in
set_option maxHeartbeats 4000000 in
theorem sX9_freezes {g : fd_G} {hm : fd_H} {a1 : Int32} {a2 : Int32} {r : Int32 × fd_H} {h : fd_H} (hf : fX9_freezes a1 a2 h = some r) : fd_S g mX9_freezes 8 [.ref (g.2.2.2 + 73), .int a1, .int a2] fd_X0 (fd_mx hm h) (some (.int r.1)) fd_X0 (fd_mx hm r.2) 0 0 := by
  refine fd_S.of (by decide +kernel) (Nat.le_of_ble_eq_true rfl) ?_
  unfold fX9_freezes at hf
  refine fr_loc (lv' := [(0, .ref (g.2.2.2 + 73)), (1, .int a1), (2, .int a2)]) [0, 1, 2] rfl ?_
  refine fr_aload_n (pc := 0) dX9_freezes_0 0 rfl rfl ?_
  refine fr_iload_n (pc := 1) dX9_freezes_1 1 rfl rfl ?_
  obtain ⟨q2, hc1, hf⟩ := fd_bi hf
  refine fr_callVz (pc := 2) (av := [.int a1]) dX9_freezes_2 yy_X9_isNight kw_551 (by decide) rfl rfl rfl rfl (Nat.le_of_ble_eq_true rfl) ⟨Nat.le_of_ble_eq_true rfl, Nat.le_of_ble_eq_true rfl, Nat.zero_le _, Nat.zero_le _⟩ (sX9_isNight hc1) ?_
  refine fr_bz (pc := 5) 25 dX9_freezes_5 (by decide) (fun c3 => ?_) (fun c3 => ?_)
  · have hf := fd_f c3 hf
    refine fr_bipush (pc := 25) (v := (-2 : Int32)) dX9_freezes_25 (by decide) ?_
    exact vm_iretW (x := (-2 : Int32)) (pc := 27) dX9_freezes_27 rfl hf
  · have hf := fd_t c3 hf
    refine fr_aload_n (pc := 8) dX9_freezes_8 0 rfl rfl ?_
    refine fr_iload_n (pc := 9) dX9_freezes_9 2 rfl rfl ?_
    obtain ⟨q5, hc4, hf⟩ := fd_bi hf
    refine fr_callVz (pc := 10) (av := [.int a2]) dX9_freezes_10 yy_X9_isPlace kw_547 (by decide) rfl rfl rfl rfl (Nat.le_of_ble_eq_true rfl) ⟨Nat.le_of_ble_eq_true rfl, Nat.le_of_ble_eq_true rfl, Nat.zero_le _, Nat.zero_le _⟩ (sX9_isPlace hc4) ?_
    refine fr_bz (pc := 13) 25 dX9_freezes_13 (by decide) (fun c6 => ?_) (fun c6 => ?_)
    · have hf := fd_f c6 hf
      refine fr_bipush (pc := 25) (v := (-2 : Int32)) dX9_freezes_25 (by decide) ?_
      exact vm_iretW (x := (-2 : Int32)) (pc := 27) dX9_freezes_27 rfl hf
    · have hf := fd_t c6 hf
      refine fr_aload_n (pc := 16) dX9_freezes_16 0 rfl rfl ?_
      refine fr_iload_n (pc := 17) dX9_freezes_17 1 rfl rfl ?_
      refine fr_iload_n (pc := 18) dX9_freezes_18 2 rfl rfl ?_
      obtain ⟨q8, hc7, hf⟩ := fd_bi hf
      refine fr_callVi (pc := 19) (av := [.int a1, .int a2]) dX9_freezes_19 yy_X9_freezesOf kw_588 (by decide) rfl rfl rfl rfl (Nat.le_of_ble_eq_true rfl) ⟨Nat.le_of_ble_eq_true rfl, Nat.le_of_ble_eq_true rfl, Nat.zero_le _, Nat.zero_le _⟩ (sX9_freezesOf hc7) ?_
      refine fr_goto (pc := 22) 27 dX9_freezes_22 (by decide) ?_
      exact vm_iretW (x := q8.1) (pc := 27) dX9_freezes_27 rfl hf
theorem dX9_firstOf_0 : decode cX9_firstOf 0 = .ok (.aload_n 0, 1) := by decide +kernel
theorem dX9_firstOf_1 : decode cX9_firstOf 1 = .ok (.invokevirtual 180, 3) := by decide +kernel
theorem dX9_firstOf_4 : decode cX9_firstOf 4 = .ok (.aload_n 0, 1) := by decide +kernel
theorem dX9_firstOf_5 : decode cX9_firstOf 5 = .ok (.getfield 53, 3) := by decide +kernel
theorem dX9_firstOf_8 : decode cX9_firstOf 8 = .ok (.iload_n 1, 1) := by decide +kernel
theorem dX9_firstOf_9 : decode cX9_firstOf 9 = .ok (.iaload, 1) := by decide +kernel
theorem dX9_firstOf_10 : decode cX9_firstOf 10 = .ok (.ireturn, 1) := by decide +kernel
def fX9_firstOf (a1 : Int32) (h : fd_H) : Option (Int32 × fd_H) :=
(fX9_laysTold h).bind fun h2 =>
fd_g (fd_in a1 8) (
some ((h2.1 88 a1.toNatClampNeg), h2))
set_option maxRecDepth 100000 in
set_option maxHeartbeats 4000000 in
theorem sX9_firstOf {g : fd_G} {hm : fd_H} {a1 : Int32} {r : Int32 × fd_H} {h : fd_H} (hf : fX9_firstOf a1 h = some r) : fd_S g mX9_firstOf 8 [.ref (g.2.2.2 + 73), .int a1] fd_X0 (fd_mx hm h) (some (.int r.1)) fd_X0 (fd_mx hm r.2) 0 0 := by
  refine fd_S.of (by decide +kernel) (Nat.le_of_ble_eq_true rfl) ?_
  unfold fX9_firstOf at hf
  refine fr_loc (lv' := [(0, .ref (g.2.2.2 + 73)), (1, .int a1)]) [0, 1] rfl ?_
  refine fr_aload_n (pc := 0) dX9_firstOf_0 0 rfl rfl ?_
  obtain ⟨h2, hc1, hf⟩ := fd_bi hf
  refine fr_callVv (pc := 1) (av := []) dX9_firstOf_1 yy_X9_laysTold kw_592 (by decide) rfl rfl rfl rfl (Nat.le_of_ble_eq_true rfl) ⟨Nat.le_of_ble_eq_true rfl, Nat.le_of_ble_eq_true rfl, Nat.zero_le _, Nat.zero_le _⟩ (sX9_laysTold hc1) ?_
  refine fr_aload_n (pc := 4) dX9_firstOf_4 0 rfl rfl ?_
  refine fr_getR (pc := 5) dX9_firstOf_5 fl_X9_53 (by decide) rfl rfl ?_
  refine fr_iload_n (pc := 8) dX9_firstOf_8 1 rfl rfl ?_
  obtain ⟨g3, hf⟩ := fd_g_e hf
  refine vm_iald (pc := 9) dX9_firstOf_9 (by decide) (by decide) rfl g3 ?_
  exact vm_iretW (x := (h2.1 88 a1.toNatClampNeg)) (pc := 10) dX9_firstOf_10 rfl hf
theorem dX9_hadOf_0 : decode cX9_hadOf 0 = .ok (.aload_n 0, 1) := by decide +kernel
theorem dX9_hadOf_1 : decode cX9_hadOf 1 = .ok (.invokevirtual 180, 3) := by decide +kernel
theorem dX9_hadOf_4 : decode cX9_hadOf 4 = .ok (.iconst 0, 1) := by decide +kernel
theorem dX9_hadOf_5 : decode cX9_hadOf 5 = .ok (.istore_n 2, 1) := by decide +kernel
theorem dX9_hadOf_6 : decode cX9_hadOf 6 = .ok (.iconst 0, 1) := by decide +kernel
theorem dX9_hadOf_7 : decode cX9_hadOf 7 = .ok (.istore_n 3, 1) := by decide +kernel
theorem dX9_hadOf_8 : decode cX9_hadOf 8 = .ok (.iload_n 3, 1) := by decide +kernel
theorem dX9_hadOf_9 : decode cX9_hadOf 9 = .ok (.aload_n 0, 1) := by decide +kernel
theorem dX9_hadOf_10 : decode cX9_hadOf 10 = .ok (.getfield 105, 3) := by decide +kernel
theorem dX9_hadOf_13 : decode cX9_hadOf 13 = .ok (.if_icmp .ge 28, 3) := by decide +kernel
theorem dX9_hadOf_16 : decode cX9_hadOf 16 = .ok (.iload_n 2, 1) := by decide +kernel
theorem dX9_hadOf_17 : decode cX9_hadOf 17 = .ok (.aload_n 0, 1) := by decide +kernel
theorem dX9_hadOf_18 : decode cX9_hadOf 18 = .ok (.iload_n 3, 1) := by decide +kernel
theorem dX9_hadOf_19 : decode cX9_hadOf 19 = .ok (.iload_n 1, 1) := by decide +kernel
theorem dX9_hadOf_20 : decode cX9_hadOf 20 = .ok (.invokevirtual 186, 3) := by decide +kernel
theorem dX9_hadOf_23 : decode cX9_hadOf 23 = .ok (.ifCond .eq 9, 3) := by decide +kernel
theorem dX9_hadOf_26 : decode cX9_hadOf 26 = .ok (.iconst 1, 1) := by decide +kernel
theorem dX9_hadOf_27 : decode cX9_hadOf 27 = .ok (.iload_n 3, 1) := by decide +kernel
theorem dX9_hadOf_28 : decode cX9_hadOf 28 = .ok (.ishl, 1) := by decide +kernel
theorem dX9_hadOf_29 : decode cX9_hadOf 29 = .ok (.goto 4, 3) := by decide +kernel
theorem dX9_hadOf_32 : decode cX9_hadOf 32 = .ok (.iconst 0, 1) := by decide +kernel
theorem dX9_hadOf_33 : decode cX9_hadOf 33 = .ok (.ior, 1) := by decide +kernel
theorem dX9_hadOf_34 : decode cX9_hadOf 34 = .ok (.istore_n 2, 1) := by decide +kernel
theorem dX9_hadOf_35 : decode cX9_hadOf 35 = .ok (.iinc 3 1, 3) := by decide +kernel
theorem dX9_hadOf_38 : decode cX9_hadOf 38 = .ok (.goto (-30), 3) := by decide +kernel
theorem dX9_hadOf_41 : decode cX9_hadOf 41 = .ok (.iload_n 2, 1) := by decide +kernel
theorem dX9_hadOf_42 : decode cX9_hadOf 42 = .ok (.ireturn, 1) := by decide +kernel
def fX9_hadOf_L33 (a1 : Int32) (K8 : Int32 → Int32 → fd_H → Option (Int32 × fd_H)) (v3 : Int32) (vs0 : Int32) (vs1 : Int32) (h : fd_H) : Option (Int32 × fd_H) :=
fd_lt ((vs1 ||| vs0)) fun x1 =>
K8 x1 (v3 + (1 : Int32)) h
set_option maxRecDepth 100000 in
set_option maxHeartbeats 4000000 in
theorem sX9_hadOf_L33 {g : fd_G} {hm : fd_H} {a1 : Int32} {r : Int32 × fd_H} {K8 : Int32 → Int32 → fd_H → Option (Int32 × fd_H)} (hK8 : ∀ (v2 : Int32) (v3 : Int32) (h : fd_H), K8 v2 v3 h = some r → fd_A g mX9_hadOf fd_E (fd_rm 8 0 0) (fd_Q g (some (.int r.1)) fd_X0 (fd_mx hm r.2) 0 0) 8 [(0, .ref (g.2.2.2 + 73)), (1, .int a1), (2, .int v2), (3, .int v3)] [] fd_X0 (fd_mx hm h) 0 0) : ∀ (v3 : Int32) (vs0 : Int32) (vs1 : Int32) (h : fd_H), fX9_hadOf_L33 a1 K8 v3 vs0 vs1 h = some r → fd_A g mX9_hadOf fd_E (fd_rm 8 0 0) (fd_Q g (some (.int r.1)) fd_X0 (fd_mx hm r.2) 0 0) 33 [(0, .ref (g.2.2.2 + 73)), (1, .int a1), (3, .int v3)] [.int vs0, .int vs1] fd_X0 (fd_mx hm h) 0 0 := by
  intro v3 vs0 vs1 h hf
  unfold fX9_hadOf_L33 at hf
  refine fr_ior (pc := 33) dX9_hadOf_33 ?_
  obtain ⟨x1, ex1, hf⟩ := fd_lt_e hf
  refine fr_nmi ex1 ?_
  refine fr_istore_n (pc := 34) (lv' := [(2, .int x1), (0, .ref (g.2.2.2 + 73)), (1, .int a1), (3, .int v3)]) dX9_hadOf_34 rfl (by decide) rfl ?_
  refine fr_iinc (pc := 35) (v := (v3 + (1 : Int32))) (lv' := [(3, .int (v3 + (1 : Int32))), (2, .int x1), (0, .ref (g.2.2.2 + 73)), (1, .int a1)]) dX9_hadOf_35 3 rfl rfl (by decide) rfl ?_
  refine fr_goto (pc := 38) 8 dX9_hadOf_38 (by decide) ?_
  refine fr_loc (lv' := [(0, .ref (g.2.2.2 + 73)), (1, .int a1), (2, .int x1), (3, .int (v3 + (1 : Int32)))]) [2, 3, 1, 0] rfl ?_
  exact hK8 _ _ _ hf
def fX9_hadOf_L8 (a1 : Int32) : Nat → Int32 → Int32 → fd_H → Option (Int32 × fd_H)
  | 0 => fun _ _ _ => none
  | n + 1 => fun v2 v3 h =>
if (h.1 73 2) ≤ v3 then (
some (v2, h))
else (
(fX9_hasHad v3 a1 h).bind fun r3 =>
if r3 = true then (
fX9_hadOf_L33 a1 (fX9_hadOf_L8 a1 n) v3 ((1 : Int32) <<< (v3 &&& 31)) v2 h)
else (
fX9_hadOf_L33 a1 (fX9_hadOf_L8 a1 n) v3 (0 : Int32) v2 h))
set_option maxRecDepth 100000 in
set_option maxHeartbeats 4000000 in
theorem sX9_hadOf_L8 {g : fd_G} {hm : fd_H} {a1 : Int32} {r : Int32 × fd_H} : ∀ (n : Nat) (v2 : Int32) (v3 : Int32) (h : fd_H), fX9_hadOf_L8 a1 n v2 v3 h = some r → fd_A g mX9_hadOf fd_E (fd_rm 8 0 0) (fd_Q g (some (.int r.1)) fd_X0 (fd_mx hm r.2) 0 0) 8 [(0, .ref (g.2.2.2 + 73)), (1, .int a1), (2, .int v2), (3, .int v3)] [] fd_X0 (fd_mx hm h) 0 0 := by
  intro n
  induction n with
  | zero =>
    intro _ _ _ hf
    cases hf
  | succ n ih =>
    intro v2 v3 h hf
    rw [fX9_hadOf_L8] at hf
    refine fr_iload_n (pc := 8) dX9_hadOf_8 3 rfl rfl ?_
    refine fr_aload_n (pc := 9) dX9_hadOf_9 0 rfl rfl ?_
    refine vm_getI (pc := 10) dX9_hadOf_10 fl_X9_105 (by decide) (by decide) rfl rfl ?_
    refine fr_icmp_ge (pc := 13) 41 dX9_hadOf_13 (by decide) (fun c1 => ?_) (fun c1 => ?_)
    · have hf := fd_t c1 hf
      refine fr_iload_n (pc := 41) dX9_hadOf_41 2 rfl rfl ?_
      exact vm_iretW (x := v2) (pc := 42) dX9_hadOf_42 rfl hf
    · have hf := fd_f c1 hf
      refine fr_iload_n (pc := 16) dX9_hadOf_16 2 rfl rfl ?_
      refine fr_aload_n (pc := 17) dX9_hadOf_17 0 rfl rfl ?_
      refine fr_iload_n (pc := 18) dX9_hadOf_18 3 rfl rfl ?_
      refine fr_iload_n (pc := 19) dX9_hadOf_19 1 rfl rfl ?_
      obtain ⟨r3, hc2, hf⟩ := fd_bi hf
      refine fr_callVz (pc := 20) (av := [.int v3, .int a1]) dX9_hadOf_20 yy_X9_hasHad kw_166 (by decide) rfl rfl rfl rfl (Nat.le_of_ble_eq_true rfl) ⟨Nat.le_of_ble_eq_true rfl, Nat.le_of_ble_eq_true rfl, Nat.zero_le _, Nat.zero_le _⟩ (sX9_hasHad hc2) ?_
      refine fr_bz (pc := 23) 32 dX9_hadOf_23 (by decide) (fun c4 => ?_) (fun c4 => ?_)
      · have hf := fd_f c4 hf
        refine fr_iconst (pc := 32) (v := (0 : Int32)) dX9_hadOf_32 (by decide) ?_
        refine fr_loc (lv' := [(0, .ref (g.2.2.2 + 73)), (1, .int a1), (3, .int v3)]) [0, 1, 3] rfl ?_
        exact sX9_hadOf_L33 ih  _ _ _ _ hf
      · have hf := fd_t c4 hf
        refine fr_iconst (pc := 26) (v := (1 : Int32)) dX9_hadOf_26 (by decide) ?_
        refine fr_iload_n (pc := 27) dX9_hadOf_27 3 rfl rfl ?_
        refine fr_ishl (pc := 28) dX9_hadOf_28 ?_
        refine fr_goto (pc := 29) 33 dX9_hadOf_29 (by decide) ?_
        refine fr_loc (lv' := [(0, .ref (g.2.2.2 + 73)), (1, .int a1), (3, .int v3)]) [0, 1, 3] rfl ?_
        exact sX9_hadOf_L33 ih  _ _ _ _ hf
def fX9_hadOf (a1 : Int32) (h : fd_H) : Option (Int32 × fd_H) :=
(fX9_laysTold h).bind fun h2 =>
fX9_hadOf_L8 a1 fd_fu (0 : Int32) (0 : Int32) h2
set_option maxRecDepth 100000 in
set_option maxHeartbeats 4000000 in
theorem sX9_hadOf {g : fd_G} {hm : fd_H} {a1 : Int32} {r : Int32 × fd_H} {h : fd_H} (hf : fX9_hadOf a1 h = some r) : fd_S g mX9_hadOf 8 [.ref (g.2.2.2 + 73), .int a1] fd_X0 (fd_mx hm h) (some (.int r.1)) fd_X0 (fd_mx hm r.2) 0 0 := by
  refine fd_S.of (by decide +kernel) (Nat.le_of_ble_eq_true rfl) ?_
  unfold fX9_hadOf at hf
  refine fr_loc (lv' := [(0, .ref (g.2.2.2 + 73)), (1, .int a1)]) [0, 1] rfl ?_
  refine fr_aload_n (pc := 0) dX9_hadOf_0 0 rfl rfl ?_
  obtain ⟨h2, hc1, hf⟩ := fd_bi hf
  refine fr_callVv (pc := 1) (av := []) dX9_hadOf_1 yy_X9_laysTold kw_592 (by decide) rfl rfl rfl rfl (Nat.le_of_ble_eq_true rfl) ⟨Nat.le_of_ble_eq_true rfl, Nat.le_of_ble_eq_true rfl, Nat.zero_le _, Nat.zero_le _⟩ (sX9_laysTold hc1) ?_
  refine fr_iconst (pc := 4) (v := (0 : Int32)) dX9_hadOf_4 (by decide) ?_
  refine fr_istore_n (pc := 5) (lv' := [(2, .int (0 : Int32)), (0, .ref (g.2.2.2 + 73)), (1, .int a1)]) dX9_hadOf_5 rfl (by decide) rfl ?_
  refine fr_iconst (pc := 6) (v := (0 : Int32)) dX9_hadOf_6 (by decide) ?_
  refine fr_istore_n (pc := 7) (lv' := [(3, .int (0 : Int32)), (2, .int (0 : Int32)), (0, .ref (g.2.2.2 + 73)), (1, .int a1)]) dX9_hadOf_7 rfl (by decide) rfl ?_
  refine fr_loc (lv' := [(0, .ref (g.2.2.2 + 73)), (1, .int a1), (2, .int (0 : Int32)), (3, .int (0 : Int32))]) [2, 3, 1, 0] rfl ?_
  exact sX9_hadOf_L8 _  _ _ _ hf
theorem dX9_standsOf_0 : decode cX9_standsOf 0 = .ok (.aload_n 0, 1) := by decide +kernel
theorem dX9_standsOf_1 : decode cX9_standsOf 1 = .ok (.invokevirtual 180, 3) := by decide +kernel
theorem dX9_standsOf_4 : decode cX9_standsOf 4 = .ok (.aload_n 0, 1) := by decide +kernel
theorem dX9_standsOf_5 : decode cX9_standsOf 5 = .ok (.iload_n 1, 1) := by decide +kernel
theorem dX9_standsOf_6 : decode cX9_standsOf 6 = .ok (.aload_n 0, 1) := by decide +kernel
theorem dX9_standsOf_7 : decode cX9_standsOf 7 = .ok (.getfield 34, 3) := by decide +kernel
theorem dX9_standsOf_10 : decode cX9_standsOf 10 = .ok (.iload_n 1, 1) := by decide +kernel
theorem dX9_standsOf_11 : decode cX9_standsOf 11 = .ok (.iaload, 1) := by decide +kernel
theorem dX9_standsOf_12 : decode cX9_standsOf 12 = .ok (.iload_n 2, 1) := by decide +kernel
theorem dX9_standsOf_13 : decode cX9_standsOf 13 = .ok (.invokevirtual 192, 3) := by decide +kernel
theorem dX9_standsOf_16 : decode cX9_standsOf 16 = .ok (.ifCond .eq 7, 3) := by decide +kernel
theorem dX9_standsOf_19 : decode cX9_standsOf 19 = .ok (.iconst 1, 1) := by decide +kernel
theorem dX9_standsOf_20 : decode cX9_standsOf 20 = .ok (.goto 4, 3) := by decide +kernel
theorem dX9_standsOf_23 : decode cX9_standsOf 23 = .ok (.iconst 0, 1) := by decide +kernel
theorem dX9_standsOf_24 : decode cX9_standsOf 24 = .ok (.ireturn, 1) := by decide +kernel
def fX9_standsOf (a1 : Int32) (a2 : Int32) (h : fd_H) : Option (Int32 × fd_H) :=
(fX9_laysTold h).bind fun h2 =>
fd_g (fd_in a1 10) (
(fX9_isStanding a1 (h2.1 82 a1.toNatClampNeg) a2 h2).bind fun r5 =>
if r5 = true then (
some ((1 : Int32), h2))
else (
some ((0 : Int32), h2)))
set_option maxRecDepth 100000 in
set_option maxHeartbeats 4000000 in
theorem sX9_standsOf {g : fd_G} {hm : fd_H} {a1 : Int32} {a2 : Int32} {r : Int32 × fd_H} {h : fd_H} (hf : fX9_standsOf a1 a2 h = some r) : fd_S g mX9_standsOf 8 [.ref (g.2.2.2 + 73), .int a1, .int a2] fd_X0 (fd_mx hm h) (some (.int r.1)) fd_X0 (fd_mx hm r.2) 0 0 := by
  refine fd_S.of (by decide +kernel) (Nat.le_of_ble_eq_true rfl) ?_
  unfold fX9_standsOf at hf
  refine fr_loc (lv' := [(0, .ref (g.2.2.2 + 73)), (1, .int a1), (2, .int a2)]) [0, 1, 2] rfl ?_
  refine fr_aload_n (pc := 0) dX9_standsOf_0 0 rfl rfl ?_
  obtain ⟨h2, hc1, hf⟩ := fd_bi hf
  refine fr_callVv (pc := 1) (av := []) dX9_standsOf_1 yy_X9_laysTold kw_592 (by decide) rfl rfl rfl rfl (Nat.le_of_ble_eq_true rfl) ⟨Nat.le_of_ble_eq_true rfl, Nat.le_of_ble_eq_true rfl, Nat.zero_le _, Nat.zero_le _⟩ (sX9_laysTold hc1) ?_
  refine fr_aload_n (pc := 4) dX9_standsOf_4 0 rfl rfl ?_
  refine fr_iload_n (pc := 5) dX9_standsOf_5 1 rfl rfl ?_
  refine fr_aload_n (pc := 6) dX9_standsOf_6 0 rfl rfl ?_
  refine fr_getR (pc := 7) dX9_standsOf_7 fl_X9_34 (by decide) rfl rfl ?_
  refine fr_iload_n (pc := 10) dX9_standsOf_10 1 rfl rfl ?_
  obtain ⟨g3, hf⟩ := fd_g_e hf
  refine vm_iald (pc := 11) dX9_standsOf_11 (by decide) (by decide) rfl g3 ?_
  refine fr_iload_n (pc := 12) dX9_standsOf_12 2 rfl rfl ?_
  obtain ⟨r5, hc4, hf⟩ := fd_bi hf
  refine fr_callVz (pc := 13) (av := [.int a1, .int (h2.1 82 a1.toNatClampNeg), .int a2]) dX9_standsOf_13 yy_X9_isStanding kw_258 (by decide) rfl rfl rfl rfl (Nat.le_of_ble_eq_true rfl) ⟨Nat.le_of_ble_eq_true rfl, Nat.le_of_ble_eq_true rfl, Nat.zero_le _, Nat.zero_le _⟩ (sX9_isStanding hc4) ?_
  refine fr_bz (pc := 16) 23 dX9_standsOf_16 (by decide) (fun c6 => ?_) (fun c6 => ?_)
  · have hf := fd_f c6 hf
    refine fr_iconst (pc := 23) (v := (0 : Int32)) dX9_standsOf_23 (by decide) ?_
    exact vm_iretW (x := (0 : Int32)) (pc := 24) dX9_standsOf_24 rfl hf
  · have hf := fd_t c6 hf
    refine fr_iconst (pc := 19) (v := (1 : Int32)) dX9_standsOf_19 (by decide) ?_
    refine fr_goto (pc := 20) 24 dX9_standsOf_20 (by decide) ?_
    exact vm_iretW (x := (1 : Int32)) (pc := 24) dX9_standsOf_24 rfl hf
theorem dX9_lastsOf_0 : decode cX9_lastsOf 0 = .ok (.aload_n 0, 1) := by decide +kernel
theorem dX9_lastsOf_1 : decode cX9_lastsOf 1 = .ok (.invokevirtual 180, 3) := by decide +kernel
theorem dX9_lastsOf_4 : decode cX9_lastsOf 4 = .ok (.aload_n 0, 1) := by decide +kernel
theorem dX9_lastsOf_5 : decode cX9_lastsOf 5 = .ok (.getfield 34, 3) := by decide +kernel
theorem dX9_lastsOf_8 : decode cX9_lastsOf 8 = .ok (.iload_n 1, 1) := by decide +kernel
theorem dX9_lastsOf_9 : decode cX9_lastsOf 9 = .ok (.iaload, 1) := by decide +kernel
theorem dX9_lastsOf_10 : decode cX9_lastsOf 10 = .ok (.istore_n 3, 1) := by decide +kernel
theorem dX9_lastsOf_11 : decode cX9_lastsOf 11 = .ok (.iload_n 3, 1) := by decide +kernel
theorem dX9_lastsOf_12 : decode cX9_lastsOf 12 = .ok (.aload_n 0, 1) := by decide +kernel
theorem dX9_lastsOf_13 : decode cX9_lastsOf 13 = .ok (.getfield 105, 3) := by decide +kernel
theorem dX9_lastsOf_16 : decode cX9_lastsOf 16 = .ok (.if_icmp .ge 28, 3) := by decide +kernel
theorem dX9_lastsOf_19 : decode cX9_lastsOf 19 = .ok (.aload_n 0, 1) := by decide +kernel
theorem dX9_lastsOf_20 : decode cX9_lastsOf 20 = .ok (.getfield 53, 3) := by decide +kernel
theorem dX9_lastsOf_23 : decode cX9_lastsOf 23 = .ok (.iload_n 3, 1) := by decide +kernel
theorem dX9_lastsOf_24 : decode cX9_lastsOf 24 = .ok (.iaload, 1) := by decide +kernel
theorem dX9_lastsOf_25 : decode cX9_lastsOf 25 = .ok (.iconst (-1), 1) := by decide +kernel
theorem dX9_lastsOf_26 : decode cX9_lastsOf 26 = .ok (.if_icmp .eq 22, 3) := by decide +kernel
theorem dX9_lastsOf_29 : decode cX9_lastsOf 29 = .ok (.aload_n 0, 1) := by decide +kernel
theorem dX9_lastsOf_30 : decode cX9_lastsOf 30 = .ok (.getfield 53, 3) := by decide +kernel
theorem dX9_lastsOf_33 : decode cX9_lastsOf 33 = .ok (.iload_n 3, 1) := by decide +kernel
theorem dX9_lastsOf_34 : decode cX9_lastsOf 34 = .ok (.iaload, 1) := by decide +kernel
theorem dX9_lastsOf_35 : decode cX9_lastsOf 35 = .ok (.aload_n 0, 1) := by decide +kernel
theorem dX9_lastsOf_36 : decode cX9_lastsOf 36 = .ok (.getfield 37, 3) := by decide +kernel
theorem dX9_lastsOf_39 : decode cX9_lastsOf 39 = .ok (.iload_n 1, 1) := by decide +kernel
theorem dX9_lastsOf_40 : decode cX9_lastsOf 40 = .ok (.iaload, 1) := by decide +kernel
theorem dX9_lastsOf_41 : decode cX9_lastsOf 41 = .ok (.if_icmp .ge 7, 3) := by decide +kernel
theorem dX9_lastsOf_44 : decode cX9_lastsOf 44 = .ok (.iconst 1, 1) := by decide +kernel
theorem dX9_lastsOf_45 : decode cX9_lastsOf 45 = .ok (.goto 4, 3) := by decide +kernel
theorem dX9_lastsOf_48 : decode cX9_lastsOf 48 = .ok (.iconst 0, 1) := by decide +kernel
theorem dX9_lastsOf_49 : decode cX9_lastsOf 49 = .ok (.istore 4, 2) := by decide +kernel
theorem dX9_lastsOf_51 : decode cX9_lastsOf 51 = .ok (.iload_n 2, 1) := by decide +kernel
theorem dX9_lastsOf_52 : decode cX9_lastsOf 52 = .ok (.ifCond .ne 12, 3) := by decide +kernel
theorem dX9_lastsOf_55 : decode cX9_lastsOf 55 = .ok (.aload_n 0, 1) := by decide +kernel
theorem dX9_lastsOf_56 : decode cX9_lastsOf 56 = .ok (.iload_n 1, 1) := by decide +kernel
theorem dX9_lastsOf_57 : decode cX9_lastsOf 57 = .ok (.iload_n 3, 1) := by decide +kernel
theorem dX9_lastsOf_58 : decode cX9_lastsOf 58 = .ok (.invokevirtual 198, 3) := by decide +kernel
theorem dX9_lastsOf_61 : decode cX9_lastsOf 61 = .ok (.goto 13, 3) := by decide +kernel
theorem dX9_lastsOf_64 : decode cX9_lastsOf 64 = .ok (.iload 4, 2) := by decide +kernel
theorem dX9_lastsOf_66 : decode cX9_lastsOf 66 = .ok (.ifCond .eq 7, 3) := by decide +kernel
theorem dX9_lastsOf_69 : decode cX9_lastsOf 69 = .ok (.iconst 1, 1) := by decide +kernel
theorem dX9_lastsOf_70 : decode cX9_lastsOf 70 = .ok (.goto 4, 3) := by decide +kernel
theorem dX9_lastsOf_73 : decode cX9_lastsOf 73 = .ok (.iconst 0, 1) := by decide +kernel
theorem dX9_lastsOf_74 : decode cX9_lastsOf 74 = .ok (.ireturn, 1) := by decide +kernel
def fX9_lastsOf_L49 (a1 : Int32) (a2 : Int32) (v3 : Int32) (vs0 : Bool) (h : fd_H) : Option (Int32 × fd_H) :=
if a2 = 0 then (
(fX9_standsFor a1 v3 h).bind fun r4 =>
some (r4, h))
else (
if vs0 = true then (
some ((1 : Int32), h))
else (
some ((0 : Int32), h)))
set_option maxRecDepth 100000 in
set_option maxHeartbeats 4000000 in
theorem sX9_lastsOf_L49 {g : fd_G} {hm : fd_H} {a1 : Int32} {a2 : Int32} {r : Int32 × fd_H} : ∀ (v3 : Int32) (vs0 : Bool) (h : fd_H), fX9_lastsOf_L49 a1 a2 v3 vs0 h = some r → fd_A g mX9_lastsOf fd_E (fd_rm 8 0 0) (fd_Q g (some (.int r.1)) fd_X0 (fd_mx hm r.2) 0 0) 49 [(0, .ref (g.2.2.2 + 73)), (1, .int a1), (2, .int a2), (3, .int v3)] [.int (fd_b vs0)] fd_X0 (fd_mx hm h) 0 0 := by
  intro v3 vs0 h hf
  unfold fX9_lastsOf_L49 at hf
  refine fr_istore (pc := 49) (lv' := [(4, .int (fd_b vs0)), (0, .ref (g.2.2.2 + 73)), (1, .int a1), (2, .int a2), (3, .int v3)]) dX9_lastsOf_49 (by decide) rfl ?_
  refine fr_iload_n (pc := 51) dX9_lastsOf_51 3 rfl rfl ?_
  refine fr_if_ne (pc := 52) 64 dX9_lastsOf_52 (by decide) (fun c1 => ?_) (fun c1 => ?_)
  · have hf := fd_f c1 hf
    refine fr_iload (pc := 64) dX9_lastsOf_64 0 rfl ?_
    refine fr_bz (pc := 66) 73 dX9_lastsOf_66 (by decide) (fun c2 => ?_) (fun c2 => ?_)
    · have hf := fd_f c2 hf
      refine fr_iconst (pc := 73) (v := (0 : Int32)) dX9_lastsOf_73 (by decide) ?_
      exact vm_iretW (x := (0 : Int32)) (pc := 74) dX9_lastsOf_74 rfl hf
    · have hf := fd_t c2 hf
      refine fr_iconst (pc := 69) (v := (1 : Int32)) dX9_lastsOf_69 (by decide) ?_
      refine fr_goto (pc := 70) 74 dX9_lastsOf_70 (by decide) ?_
      exact vm_iretW (x := (1 : Int32)) (pc := 74) dX9_lastsOf_74 rfl hf
  · have hf := fd_t c1 hf
    refine fr_aload_n (pc := 55) dX9_lastsOf_55 1 rfl rfl ?_
    refine fr_iload_n (pc := 56) dX9_lastsOf_56 2 rfl rfl ?_
    refine fr_iload_n (pc := 57) dX9_lastsOf_57 4 rfl rfl ?_
    obtain ⟨r4, hc3, hf⟩ := fd_bi hf
    refine fr_callVi (pc := 58) (av := [.int a1, .int v3]) dX9_lastsOf_58 yy_X9_standsFor kw_596 (by decide) rfl rfl rfl rfl (Nat.le_of_ble_eq_true rfl) ⟨Nat.le_of_ble_eq_true rfl, Nat.le_of_ble_eq_true rfl, Nat.zero_le _, Nat.zero_le _⟩ (sX9_standsFor hc3) ?_
    refine fr_goto (pc := 61) 74 dX9_lastsOf_61 (by decide) ?_
    exact vm_iretW (x := r4) (pc := 74) dX9_lastsOf_74 rfl hf
def fX9_lastsOf_L48 (a1 : Int32) (a2 : Int32) (v3 : Int32) (h : fd_H) : Option (Int32 × fd_H) :=
fX9_lastsOf_L49 a1 a2 v3 false h
set_option maxRecDepth 100000 in
set_option maxHeartbeats 4000000 in
theorem sX9_lastsOf_L48 {g : fd_G} {hm : fd_H} {a1 : Int32} {a2 : Int32} {r : Int32 × fd_H} : ∀ (v3 : Int32) (h : fd_H), fX9_lastsOf_L48 a1 a2 v3 h = some r → fd_A g mX9_lastsOf fd_E (fd_rm 8 0 0) (fd_Q g (some (.int r.1)) fd_X0 (fd_mx hm r.2) 0 0) 48 [(0, .ref (g.2.2.2 + 73)), (1, .int a1), (2, .int a2), (3, .int v3)] [] fd_X0 (fd_mx hm h) 0 0 := by
  intro v3 h hf
  unfold fX9_lastsOf_L48 at hf
  refine fr_iconst (pc := 48) (v := (0 : Int32)) dX9_lastsOf_48 (by decide) ?_
  refine fr_loc (lv' := [(0, .ref (g.2.2.2 + 73)), (1, .int a1), (2, .int a2), (3, .int v3)]) [0, 1, 2, 3] rfl ?_
  exact sX9_lastsOf_L49  _ _ _ hf
def fX9_lastsOf (a1 : Int32) (a2 : Int32) (h : fd_H) : Option (Int32 × fd_H) :=
(fX9_laysTold h).bind fun h2 =>
fd_g (fd_in a1 10) (
fd_lt ((h2.1 82 a1.toNatClampNeg)) fun x4 =>
if (h2.1 73 2) ≤ x4 then (
fX9_lastsOf_L49 a1 a2 x4 true h2)
else (
fd_g (fd_in x4 8) (
if (h2.1 88 x4.toNatClampNeg) = (-1 : Int32) then (
fX9_lastsOf_L48 a1 a2 x4 h2)
else (
fd_g (fd_in x4 8) (
fd_g (fd_in a1 10) (
if (h2.1 83 a1.toNatClampNeg) ≤ (h2.1 88 x4.toNatClampNeg) then (
fX9_lastsOf_L48 a1 a2 x4 h2)
else (
fX9_lastsOf_L49 a1 a2 x4 true h2)))))))
set_option maxRecDepth 100000 in
set_option maxHeartbeats 4000000 in
theorem sX9_lastsOf {g : fd_G} {hm : fd_H} {a1 : Int32} {a2 : Int32} {r : Int32 × fd_H} {h : fd_H} (hf : fX9_lastsOf a1 a2 h = some r) : fd_S g mX9_lastsOf 8 [.ref (g.2.2.2 + 73), .int a1, .int a2] fd_X0 (fd_mx hm h) (some (.int r.1)) fd_X0 (fd_mx hm r.2) 0 0 := by
  refine fd_S.of (by decide +kernel) (Nat.le_of_ble_eq_true rfl) ?_
  unfold fX9_lastsOf at hf
  refine fr_loc (lv' := [(0, .ref (g.2.2.2 + 73)), (1, .int a1), (2, .int a2)]) [0, 1, 2] rfl ?_
  refine fr_aload_n (pc := 0) dX9_lastsOf_0 0 rfl rfl ?_
  obtain ⟨h2, hc1, hf⟩ := fd_bi hf
  refine fr_callVv (pc := 1) (av := []) dX9_lastsOf_1 yy_X9_laysTold kw_592 (by decide) rfl rfl rfl rfl (Nat.le_of_ble_eq_true rfl) ⟨Nat.le_of_ble_eq_true rfl, Nat.le_of_ble_eq_true rfl, Nat.zero_le _, Nat.zero_le _⟩ (sX9_laysTold hc1) ?_
  refine fr_aload_n (pc := 4) dX9_lastsOf_4 0 rfl rfl ?_
  refine fr_getR (pc := 5) dX9_lastsOf_5 fl_X9_34 (by decide) rfl rfl ?_
  refine fr_iload_n (pc := 8) dX9_lastsOf_8 1 rfl rfl ?_
  obtain ⟨g3, hf⟩ := fd_g_e hf
  refine vm_iald (pc := 9) dX9_lastsOf_9 (by decide) (by decide) rfl g3 ?_
  obtain ⟨x4, ex4, hf⟩ := fd_lt_e hf
  refine fr_nmi ex4 ?_
  refine fr_istore_n (pc := 10) (lv' := [(3, .int x4), (0, .ref (g.2.2.2 + 73)), (1, .int a1), (2, .int a2)]) dX9_lastsOf_10 rfl (by decide) rfl ?_
  refine fr_iload_n (pc := 11) dX9_lastsOf_11 0 rfl rfl ?_
  refine fr_aload_n (pc := 12) dX9_lastsOf_12 1 rfl rfl ?_
  refine vm_getI (pc := 13) dX9_lastsOf_13 fl_X9_105 (by decide) (by decide) rfl rfl ?_
  refine fr_icmp_ge (pc := 16) 44 dX9_lastsOf_16 (by decide) (fun c5 => ?_) (fun c5 => ?_)
  · have hf := fd_t c5 hf
    refine fr_iconst (pc := 44) (v := (1 : Int32)) dX9_lastsOf_44 (by decide) ?_
    refine fr_goto (pc := 45) 49 dX9_lastsOf_45 (by decide) ?_
    refine fr_loc (lv' := [(0, .ref (g.2.2.2 + 73)), (1, .int a1), (2, .int a2), (3, .int x4)]) [1, 2, 3, 0] rfl ?_
    exact sX9_lastsOf_L49  _ _ _ hf
  · have hf := fd_f c5 hf
    refine fr_aload_n (pc := 19) dX9_lastsOf_19 1 rfl rfl ?_
    refine fr_getR (pc := 20) dX9_lastsOf_20 fl_X9_53 (by decide) rfl rfl ?_
    refine fr_iload_n (pc := 23) dX9_lastsOf_23 0 rfl rfl ?_
    obtain ⟨g6, hf⟩ := fd_g_e hf
    refine vm_iald (pc := 24) dX9_lastsOf_24 (by decide) (by decide) rfl g6 ?_
    refine fr_iconst (pc := 25) (v := (-1 : Int32)) dX9_lastsOf_25 (by decide) ?_
    refine fr_icmp_eq (pc := 26) 48 dX9_lastsOf_26 (by decide) (fun c7 => ?_) (fun c7 => ?_)
    · have hf := fd_t c7 hf
      refine fr_loc (lv' := [(0, .ref (g.2.2.2 + 73)), (1, .int a1), (2, .int a2), (3, .int x4)]) [1, 2, 3, 0] rfl ?_
      exact sX9_lastsOf_L48  _ _ hf
    · have hf := fd_f c7 hf
      refine fr_aload_n (pc := 29) dX9_lastsOf_29 1 rfl rfl ?_
      refine fr_getR (pc := 30) dX9_lastsOf_30 fl_X9_53 (by decide) rfl rfl ?_
      refine fr_iload_n (pc := 33) dX9_lastsOf_33 0 rfl rfl ?_
      obtain ⟨g8, hf⟩ := fd_g_e hf
      refine vm_iald (pc := 34) dX9_lastsOf_34 (by decide) (by decide) rfl g8 ?_
      refine fr_aload_n (pc := 35) dX9_lastsOf_35 1 rfl rfl ?_
      refine fr_getR (pc := 36) dX9_lastsOf_36 fl_X9_37 (by decide) rfl rfl ?_
      refine fr_iload_n (pc := 39) dX9_lastsOf_39 2 rfl rfl ?_
      obtain ⟨g9, hf⟩ := fd_g_e hf
      refine vm_iald (pc := 40) dX9_lastsOf_40 (by decide) (by decide) rfl g9 ?_
      refine fr_icmp_ge (pc := 41) 48 dX9_lastsOf_41 (by decide) (fun c10 => ?_) (fun c10 => ?_)
      · have hf := fd_t c10 hf
        refine fr_loc (lv' := [(0, .ref (g.2.2.2 + 73)), (1, .int a1), (2, .int a2), (3, .int x4)]) [1, 2, 3, 0] rfl ?_
        exact sX9_lastsOf_L48  _ _ hf
      · have hf := fd_f c10 hf
        refine fr_iconst (pc := 44) (v := (1 : Int32)) dX9_lastsOf_44 (by decide) ?_
        refine fr_goto (pc := 45) 49 dX9_lastsOf_45 (by decide) ?_
        refine fr_loc (lv' := [(0, .ref (g.2.2.2 + 73)), (1, .int a1), (2, .int a2), (3, .int x4)]) [1, 2, 3, 0] rfl ?_
        exact sX9_lastsOf_L49  _ _ _ hf
theorem dX9_neverNow_0 : decode cX9_neverNow 0 = .ok (.aload_n 0, 1) := by decide +kernel
theorem dX9_neverNow_1 : decode cX9_neverNow 1 = .ok (.invokevirtual 180, 3) := by decide +kernel
theorem dX9_neverNow_4 : decode cX9_neverNow 4 = .ok (.iconst 0, 1) := by decide +kernel
theorem dX9_neverNow_5 : decode cX9_neverNow 5 = .ok (.istore_n 1, 1) := by decide +kernel
theorem dX9_neverNow_6 : decode cX9_neverNow 6 = .ok (.iconst 0, 1) := by decide +kernel
theorem dX9_neverNow_7 : decode cX9_neverNow 7 = .ok (.istore_n 2, 1) := by decide +kernel
theorem dX9_neverNow_8 : decode cX9_neverNow 8 = .ok (.iload_n 2, 1) := by decide +kernel
theorem dX9_neverNow_9 : decode cX9_neverNow 9 = .ok (.aload_n 0, 1) := by decide +kernel
theorem dX9_neverNow_10 : decode cX9_neverNow 10 = .ok (.getfield 108, 3) := by decide +kernel
theorem dX9_neverNow_13 : decode cX9_neverNow 13 = .ok (.if_icmp .ge 35, 3) := by decide +kernel
theorem dX9_neverNow_16 : decode cX9_neverNow 16 = .ok (.iload_n 1, 1) := by decide +kernel
theorem dX9_neverNow_17 : decode cX9_neverNow 17 = .ok (.aload_n 0, 1) := by decide +kernel
theorem dX9_neverNow_18 : decode cX9_neverNow 18 = .ok (.iload_n 2, 1) := by decide +kernel
theorem dX9_neverNow_19 : decode cX9_neverNow 19 = .ok (.aload_n 0, 1) := by decide +kernel
theorem dX9_neverNow_20 : decode cX9_neverNow 20 = .ok (.getfield 34, 3) := by decide +kernel
theorem dX9_neverNow_23 : decode cX9_neverNow 23 = .ok (.iload_n 2, 1) := by decide +kernel
theorem dX9_neverNow_24 : decode cX9_neverNow 24 = .ok (.iaload, 1) := by decide +kernel
theorem dX9_neverNow_25 : decode cX9_neverNow 25 = .ok (.bipush 39, 2) := by decide +kernel
theorem dX9_neverNow_27 : decode cX9_neverNow 27 = .ok (.invokevirtual 192, 3) := by decide +kernel
theorem dX9_neverNow_30 : decode cX9_neverNow 30 = .ok (.ifCond .eq 9, 3) := by decide +kernel
theorem dX9_neverNow_33 : decode cX9_neverNow 33 = .ok (.iconst 1, 1) := by decide +kernel
theorem dX9_neverNow_34 : decode cX9_neverNow 34 = .ok (.iload_n 2, 1) := by decide +kernel
theorem dX9_neverNow_35 : decode cX9_neverNow 35 = .ok (.ishl, 1) := by decide +kernel
theorem dX9_neverNow_36 : decode cX9_neverNow 36 = .ok (.goto 4, 3) := by decide +kernel
theorem dX9_neverNow_39 : decode cX9_neverNow 39 = .ok (.iconst 0, 1) := by decide +kernel
theorem dX9_neverNow_40 : decode cX9_neverNow 40 = .ok (.ior, 1) := by decide +kernel
theorem dX9_neverNow_41 : decode cX9_neverNow 41 = .ok (.istore_n 1, 1) := by decide +kernel
theorem dX9_neverNow_42 : decode cX9_neverNow 42 = .ok (.iinc 2 1, 3) := by decide +kernel
theorem dX9_neverNow_45 : decode cX9_neverNow 45 = .ok (.goto (-37), 3) := by decide +kernel
theorem dX9_neverNow_48 : decode cX9_neverNow 48 = .ok (.iload_n 1, 1) := by decide +kernel
theorem dX9_neverNow_49 : decode cX9_neverNow 49 = .ok (.ireturn, 1) := by decide +kernel
def fX9_neverNow_L40  (K8 : Int32 → Int32 → fd_H → Option (Int32 × fd_H)) (v2 : Int32) (vs0 : Int32) (vs1 : Int32) (h : fd_H) : Option (Int32 × fd_H) :=
fd_lt ((vs1 ||| vs0)) fun x1 =>
K8 x1 (v2 + (1 : Int32)) h
set_option maxRecDepth 100000 in
set_option maxHeartbeats 4000000 in
theorem sX9_neverNow_L40 {g : fd_G} {hm : fd_H} {r : Int32 × fd_H} {K8 : Int32 → Int32 → fd_H → Option (Int32 × fd_H)} (hK8 : ∀ (v1 : Int32) (v2 : Int32) (h : fd_H), K8 v1 v2 h = some r → fd_A g mX9_neverNow fd_E (fd_rm 8 0 0) (fd_Q g (some (.int r.1)) fd_X0 (fd_mx hm r.2) 0 0) 8 [(0, .ref (g.2.2.2 + 73)), (1, .int v1), (2, .int v2)] [] fd_X0 (fd_mx hm h) 0 0) : ∀ (v2 : Int32) (vs0 : Int32) (vs1 : Int32) (h : fd_H), fX9_neverNow_L40  K8 v2 vs0 vs1 h = some r → fd_A g mX9_neverNow fd_E (fd_rm 8 0 0) (fd_Q g (some (.int r.1)) fd_X0 (fd_mx hm r.2) 0 0) 40 [(0, .ref (g.2.2.2 + 73)), (2, .int v2)] [.int vs0, .int vs1] fd_X0 (fd_mx hm h) 0 0 := by
  intro v2 vs0 vs1 h hf
  unfold fX9_neverNow_L40 at hf
  refine fr_ior (pc := 40) dX9_neverNow_40 ?_
  obtain ⟨x1, ex1, hf⟩ := fd_lt_e hf
  refine fr_nmi ex1 ?_
  refine fr_istore_n (pc := 41) (lv' := [(1, .int x1), (0, .ref (g.2.2.2 + 73)), (2, .int v2)]) dX9_neverNow_41 rfl (by decide) rfl ?_
  refine fr_iinc (pc := 42) (v := (v2 + (1 : Int32))) (lv' := [(2, .int (v2 + (1 : Int32))), (1, .int x1), (0, .ref (g.2.2.2 + 73))]) dX9_neverNow_42 2 rfl rfl (by decide) rfl ?_
  refine fr_goto (pc := 45) 8 dX9_neverNow_45 (by decide) ?_
  refine fr_loc (lv' := [(0, .ref (g.2.2.2 + 73)), (1, .int x1), (2, .int (v2 + (1 : Int32)))]) [2, 1, 0] rfl ?_
  exact hK8 _ _ _ hf
def fX9_neverNow_L8  : Nat → Int32 → Int32 → fd_H → Option (Int32 × fd_H)
  | 0 => fun _ _ _ => none
  | n + 1 => fun v1 v2 h =>
if (h.1 73 7) ≤ v2 then (
some (v1, h))
else (
fd_g (fd_in v2 10) (
(fX9_isStanding v2 (h.1 82 v2.toNatClampNeg) (39 : Int32) h).bind fun r4 =>
if r4 = true then (
fX9_neverNow_L40  (fX9_neverNow_L8  n) v2 ((1 : Int32) <<< (v2 &&& 31)) v1 h)
else (
fX9_neverNow_L40  (fX9_neverNow_L8  n) v2 (0 : Int32) v1 h)))
set_option maxRecDepth 100000 in
set_option maxHeartbeats 4000000 in
theorem sX9_neverNow_L8 {g : fd_G} {hm : fd_H} {r : Int32 × fd_H} : ∀ (n : Nat) (v1 : Int32) (v2 : Int32) (h : fd_H), fX9_neverNow_L8  n v1 v2 h = some r → fd_A g mX9_neverNow fd_E (fd_rm 8 0 0) (fd_Q g (some (.int r.1)) fd_X0 (fd_mx hm r.2) 0 0) 8 [(0, .ref (g.2.2.2 + 73)), (1, .int v1), (2, .int v2)] [] fd_X0 (fd_mx hm h) 0 0 := by
  intro n
  induction n with
  | zero =>
    intro _ _ _ hf
    cases hf
  | succ n ih =>
    intro v1 v2 h hf
    rw [fX9_neverNow_L8] at hf
    refine fr_iload_n (pc := 8) dX9_neverNow_8 2 rfl rfl ?_
    refine fr_aload_n (pc := 9) dX9_neverNow_9 0 rfl rfl ?_
    refine vm_getI (pc := 10) dX9_neverNow_10 fl_X9_108 (by decide) (by decide) rfl rfl ?_
    refine fr_icmp_ge (pc := 13) 48 dX9_neverNow_13 (by decide) (fun c1 => ?_) (fun c1 => ?_)
    · have hf := fd_t c1 hf
      refine fr_iload_n (pc := 48) dX9_neverNow_48 1 rfl rfl ?_
      exact vm_iretW (x := v1) (pc := 49) dX9_neverNow_49 rfl hf
    · have hf := fd_f c1 hf
      refine fr_iload_n (pc := 16) dX9_neverNow_16 1 rfl rfl ?_
      refine fr_aload_n (pc := 17) dX9_neverNow_17 0 rfl rfl ?_
      refine fr_iload_n (pc := 18) dX9_neverNow_18 2 rfl rfl ?_
      refine fr_aload_n (pc := 19) dX9_neverNow_19 0 rfl rfl ?_
      refine fr_getR (pc := 20) dX9_neverNow_20 fl_X9_34 (by decide) rfl rfl ?_
      refine fr_iload_n (pc := 23) dX9_neverNow_23 2 rfl rfl ?_
      obtain ⟨g2, hf⟩ := fd_g_e hf
      refine vm_iald (pc := 24) dX9_neverNow_24 (by decide) (by decide) rfl g2 ?_
      refine fr_bipush (pc := 25) (v := (39 : Int32)) dX9_neverNow_25 (by decide) ?_
      obtain ⟨r4, hc3, hf⟩ := fd_bi hf
      refine fr_callVz (pc := 27) (av := [.int v2, .int (h.1 82 v2.toNatClampNeg), .int (39 : Int32)]) dX9_neverNow_27 yy_X9_isStanding kw_258 (by decide) rfl rfl rfl rfl (Nat.le_of_ble_eq_true rfl) ⟨Nat.le_of_ble_eq_true rfl, Nat.le_of_ble_eq_true rfl, Nat.zero_le _, Nat.zero_le _⟩ (sX9_isStanding hc3) ?_
      refine fr_bz (pc := 30) 39 dX9_neverNow_30 (by decide) (fun c5 => ?_) (fun c5 => ?_)
      · have hf := fd_f c5 hf
        refine fr_iconst (pc := 39) (v := (0 : Int32)) dX9_neverNow_39 (by decide) ?_
        refine fr_loc (lv' := [(0, .ref (g.2.2.2 + 73)), (2, .int v2)]) [0, 2] rfl ?_
        exact sX9_neverNow_L40 ih  _ _ _ _ hf
      · have hf := fd_t c5 hf
        refine fr_iconst (pc := 33) (v := (1 : Int32)) dX9_neverNow_33 (by decide) ?_
        refine fr_iload_n (pc := 34) dX9_neverNow_34 2 rfl rfl ?_
        refine fr_ishl (pc := 35) dX9_neverNow_35 ?_
        refine fr_goto (pc := 36) 40 dX9_neverNow_36 (by decide) ?_
        refine fr_loc (lv' := [(0, .ref (g.2.2.2 + 73)), (2, .int v2)]) [0, 2] rfl ?_
        exact sX9_neverNow_L40 ih  _ _ _ _ hf
def fX9_neverNow  (h : fd_H) : Option (Int32 × fd_H) :=
(fX9_laysTold h).bind fun h2 =>
fX9_neverNow_L8  fd_fu (0 : Int32) (0 : Int32) h2
set_option maxRecDepth 100000 in
set_option maxHeartbeats 4000000 in
theorem sX9_neverNow {g : fd_G} {hm : fd_H} {r : Int32 × fd_H} {h : fd_H} (hf : fX9_neverNow  h = some r) : fd_S g mX9_neverNow 8 [.ref (g.2.2.2 + 73)] fd_X0 (fd_mx hm h) (some (.int r.1)) fd_X0 (fd_mx hm r.2) 0 0 := by
  refine fd_S.of (by decide +kernel) (Nat.le_of_ble_eq_true rfl) ?_
  unfold fX9_neverNow at hf
  refine fr_loc (lv' := [(0, .ref (g.2.2.2 + 73))]) [0] rfl ?_
  refine fr_aload_n (pc := 0) dX9_neverNow_0 0 rfl rfl ?_
  obtain ⟨h2, hc1, hf⟩ := fd_bi hf
  refine fr_callVv (pc := 1) (av := []) dX9_neverNow_1 yy_X9_laysTold kw_592 (by decide) rfl rfl rfl rfl (Nat.le_of_ble_eq_true rfl) ⟨Nat.le_of_ble_eq_true rfl, Nat.le_of_ble_eq_true rfl, Nat.zero_le _, Nat.zero_le _⟩ (sX9_laysTold hc1) ?_
  refine fr_iconst (pc := 4) (v := (0 : Int32)) dX9_neverNow_4 (by decide) ?_
  refine fr_istore_n (pc := 5) (lv' := [(1, .int (0 : Int32)), (0, .ref (g.2.2.2 + 73))]) dX9_neverNow_5 rfl (by decide) rfl ?_
  refine fr_iconst (pc := 6) (v := (0 : Int32)) dX9_neverNow_6 (by decide) ?_
  refine fr_istore_n (pc := 7) (lv' := [(2, .int (0 : Int32)), (1, .int (0 : Int32)), (0, .ref (g.2.2.2 + 73))]) dX9_neverNow_7 rfl (by decide) rfl ?_
  refine fr_loc (lv' := [(0, .ref (g.2.2.2 + 73)), (1, .int (0 : Int32)), (2, .int (0 : Int32))]) [2, 1, 0] rfl ?_
  exact sX9_neverNow_L8 _  _ _ _ hf
theorem dX9_owesOf_0 : decode cX9_owesOf 0 = .ok (.aload_n 0, 1) := by decide +kernel
theorem dX9_owesOf_1 : decode cX9_owesOf 1 = .ok (.invokevirtual 180, 3) := by decide +kernel
theorem dX9_owesOf_4 : decode cX9_owesOf 4 = .ok (.aload_n 0, 1) := by decide +kernel
theorem dX9_owesOf_5 : decode cX9_owesOf 5 = .ok (.iload_n 1, 1) := by decide +kernel
theorem dX9_owesOf_6 : decode cX9_owesOf 6 = .ok (.iload_n 2, 1) := by decide +kernel
theorem dX9_owesOf_7 : decode cX9_owesOf 7 = .ok (.iload_n 3, 1) := by decide +kernel
theorem dX9_owesOf_8 : decode cX9_owesOf 8 = .ok (.invokevirtual 207, 3) := by decide +kernel
theorem dX9_owesOf_11 : decode cX9_owesOf 11 = .ok (.ireturn, 1) := by decide +kernel
def fX9_owesOf (a1 : Int32) (a2 : Int32) (a3 : Int32) (h : fd_H) : Option (Int32 × fd_H) :=
(fX9_laysTold h).bind fun h2 =>
(fX9_owesNow a1 a2 a3 h2).bind fun r4 =>
some (r4, h2)
set_option maxRecDepth 100000 in
set_option maxHeartbeats 4000000 in
theorem sX9_owesOf {g : fd_G} {hm : fd_H} {a1 : Int32} {a2 : Int32} {a3 : Int32} {r : Int32 × fd_H} {h : fd_H} (hf : fX9_owesOf a1 a2 a3 h = some r) : fd_S g mX9_owesOf 8 [.ref (g.2.2.2 + 73), .int a1, .int a2, .int a3] fd_X0 (fd_mx hm h) (some (.int r.1)) fd_X0 (fd_mx hm r.2) 0 0 := by
  refine fd_S.of (by decide +kernel) (Nat.le_of_ble_eq_true rfl) ?_
  unfold fX9_owesOf at hf
  refine fr_loc (lv' := [(0, .ref (g.2.2.2 + 73)), (1, .int a1), (2, .int a2), (3, .int a3)]) [0, 1, 2, 3] rfl ?_
  refine fr_aload_n (pc := 0) dX9_owesOf_0 0 rfl rfl ?_
  obtain ⟨h2, hc1, hf⟩ := fd_bi hf
  refine fr_callVv (pc := 1) (av := []) dX9_owesOf_1 yy_X9_laysTold kw_592 (by decide) rfl rfl rfl rfl (Nat.le_of_ble_eq_true rfl) ⟨Nat.le_of_ble_eq_true rfl, Nat.le_of_ble_eq_true rfl, Nat.zero_le _, Nat.zero_le _⟩ (sX9_laysTold hc1) ?_
  refine fr_aload_n (pc := 4) dX9_owesOf_4 0 rfl rfl ?_
  refine fr_iload_n (pc := 5) dX9_owesOf_5 1 rfl rfl ?_
  refine fr_iload_n (pc := 6) dX9_owesOf_6 2 rfl rfl ?_
  refine fr_iload_n (pc := 7) dX9_owesOf_7 3 rfl rfl ?_
  obtain ⟨r4, hc3, hf⟩ := fd_bi hf
  refine fr_callVi (pc := 8) (av := [.int a1, .int a2, .int a3]) dX9_owesOf_8 yy_X9_owesNow kw_361 (by decide) rfl rfl rfl rfl (Nat.le_of_ble_eq_true rfl) ⟨Nat.le_of_ble_eq_true rfl, Nat.le_of_ble_eq_true rfl, Nat.zero_le _, Nat.zero_le _⟩ (sX9_owesNow hc3) ?_
  exact vm_iretW (x := r4) (pc := 11) dX9_owesOf_11 rfl hf
theorem dX9_hangsOf_0 : decode cX9_hangsOf 0 = .ok (.aload_n 0, 1) := by decide +kernel
theorem dX9_hangsOf_1 : decode cX9_hangsOf 1 = .ok (.invokevirtual 180, 3) := by decide +kernel
theorem dX9_hangsOf_4 : decode cX9_hangsOf 4 = .ok (.iconst 0, 1) := by decide +kernel
theorem dX9_hangsOf_5 : decode cX9_hangsOf 5 = .ok (.istore_n 2, 1) := by decide +kernel
theorem dX9_hangsOf_6 : decode cX9_hangsOf 6 = .ok (.iconst 0, 1) := by decide +kernel
theorem dX9_hangsOf_7 : decode cX9_hangsOf 7 = .ok (.istore_n 3, 1) := by decide +kernel
theorem dX9_hangsOf_8 : decode cX9_hangsOf 8 = .ok (.iload_n 3, 1) := by decide +kernel
theorem dX9_hangsOf_9 : decode cX9_hangsOf 9 = .ok (.bipush 6, 2) := by decide +kernel
theorem dX9_hangsOf_11 : decode cX9_hangsOf 11 = .ok (.if_icmp .ge 36, 3) := by decide +kernel
theorem dX9_hangsOf_14 : decode cX9_hangsOf 14 = .ok (.iload_n 2, 1) := by decide +kernel
theorem dX9_hangsOf_15 : decode cX9_hangsOf 15 = .ok (.aload_n 0, 1) := by decide +kernel
theorem dX9_hangsOf_16 : decode cX9_hangsOf 16 = .ok (.iload_n 3, 1) := by decide +kernel
theorem dX9_hangsOf_17 : decode cX9_hangsOf 17 = .ok (.iload_n 1, 1) := by decide +kernel
theorem dX9_hangsOf_18 : decode cX9_hangsOf 18 = .ok (.iconst 0, 1) := by decide +kernel
theorem dX9_hangsOf_19 : decode cX9_hangsOf 19 = .ok (.invokevirtual 207, 3) := by decide +kernel
theorem dX9_hangsOf_22 : decode cX9_hangsOf 22 = .ok (.aload_n 0, 1) := by decide +kernel
theorem dX9_hangsOf_23 : decode cX9_hangsOf 23 = .ok (.iload_n 3, 1) := by decide +kernel
theorem dX9_hangsOf_24 : decode cX9_hangsOf 24 = .ok (.iload_n 1, 1) := by decide +kernel
theorem dX9_hangsOf_25 : decode cX9_hangsOf 25 = .ok (.iconst 1, 1) := by decide +kernel
theorem dX9_hangsOf_26 : decode cX9_hangsOf 26 = .ok (.invokevirtual 207, 3) := by decide +kernel
theorem dX9_hangsOf_29 : decode cX9_hangsOf 29 = .ok (.if_icmp .le 9, 3) := by decide +kernel
theorem dX9_hangsOf_32 : decode cX9_hangsOf 32 = .ok (.iconst 1, 1) := by decide +kernel
theorem dX9_hangsOf_33 : decode cX9_hangsOf 33 = .ok (.iload_n 3, 1) := by decide +kernel
theorem dX9_hangsOf_34 : decode cX9_hangsOf 34 = .ok (.ishl, 1) := by decide +kernel
theorem dX9_hangsOf_35 : decode cX9_hangsOf 35 = .ok (.goto 4, 3) := by decide +kernel
theorem dX9_hangsOf_38 : decode cX9_hangsOf 38 = .ok (.iconst 0, 1) := by decide +kernel
theorem dX9_hangsOf_39 : decode cX9_hangsOf 39 = .ok (.ior, 1) := by decide +kernel
theorem dX9_hangsOf_40 : decode cX9_hangsOf 40 = .ok (.istore_n 2, 1) := by decide +kernel
theorem dX9_hangsOf_41 : decode cX9_hangsOf 41 = .ok (.iinc 3 1, 3) := by decide +kernel
theorem dX9_hangsOf_44 : decode cX9_hangsOf 44 = .ok (.goto (-36), 3) := by decide +kernel
theorem dX9_hangsOf_47 : decode cX9_hangsOf 47 = .ok (.iload_n 2, 1) := by decide +kernel
theorem dX9_hangsOf_48 : decode cX9_hangsOf 48 = .ok (.ireturn, 1) := by decide +kernel
def fX9_hangsOf_L39 (a1 : Int32) (K8 : Int32 → Int32 → fd_H → Option (Int32 × fd_H)) (v3 : Int32) (vs0 : Int32) (vs1 : Int32) (h : fd_H) : Option (Int32 × fd_H) :=
fd_lt ((vs1 ||| vs0)) fun x1 =>
K8 x1 (v3 + (1 : Int32)) h
set_option maxRecDepth 100000 in
set_option maxHeartbeats 4000000 in
theorem sX9_hangsOf_L39 {g : fd_G} {hm : fd_H} {a1 : Int32} {r : Int32 × fd_H} {K8 : Int32 → Int32 → fd_H → Option (Int32 × fd_H)} (hK8 : ∀ (v2 : Int32) (v3 : Int32) (h : fd_H), K8 v2 v3 h = some r → fd_A g mX9_hangsOf fd_E (fd_rm 8 0 0) (fd_Q g (some (.int r.1)) fd_X0 (fd_mx hm r.2) 0 0) 8 [(0, .ref (g.2.2.2 + 73)), (1, .int a1), (2, .int v2), (3, .int v3)] [] fd_X0 (fd_mx hm h) 0 0) : ∀ (v3 : Int32) (vs0 : Int32) (vs1 : Int32) (h : fd_H), fX9_hangsOf_L39 a1 K8 v3 vs0 vs1 h = some r → fd_A g mX9_hangsOf fd_E (fd_rm 8 0 0) (fd_Q g (some (.int r.1)) fd_X0 (fd_mx hm r.2) 0 0) 39 [(0, .ref (g.2.2.2 + 73)), (1, .int a1), (3, .int v3)] [.int vs0, .int vs1] fd_X0 (fd_mx hm h) 0 0 := by
  intro v3 vs0 vs1 h hf
  unfold fX9_hangsOf_L39 at hf
  refine fr_ior (pc := 39) dX9_hangsOf_39 ?_
  obtain ⟨x1, ex1, hf⟩ := fd_lt_e hf
  refine fr_nmi ex1 ?_
  refine fr_istore_n (pc := 40) (lv' := [(2, .int x1), (0, .ref (g.2.2.2 + 73)), (1, .int a1), (3, .int v3)]) dX9_hangsOf_40 rfl (by decide) rfl ?_
  refine fr_iinc (pc := 41) (v := (v3 + (1 : Int32))) (lv' := [(3, .int (v3 + (1 : Int32))), (2, .int x1), (0, .ref (g.2.2.2 + 73)), (1, .int a1)]) dX9_hangsOf_41 3 rfl rfl (by decide) rfl ?_
  refine fr_goto (pc := 44) 8 dX9_hangsOf_44 (by decide) ?_
  refine fr_loc (lv' := [(0, .ref (g.2.2.2 + 73)), (1, .int a1), (2, .int x1), (3, .int (v3 + (1 : Int32)))]) [2, 3, 1, 0] rfl ?_
  exact hK8 _ _ _ hf
def fX9_hangsOf_L8 (a1 : Int32) : Nat → Int32 → Int32 → fd_H → Option (Int32 × fd_H)
  | 0 => fun _ _ _ => none
  | n + 1 => fun v2 v3 h =>
if (6 : Int32) ≤ v3 then (
some (v2, h))
else (
(fX9_owesNow v3 a1 (0 : Int32) h).bind fun r3 =>
(fX9_owesNow v3 a1 (1 : Int32) h).bind fun r5 =>
if r3 ≤ r5 then (
fX9_hangsOf_L39 a1 (fX9_hangsOf_L8 a1 n) v3 (0 : Int32) v2 h)
else (
fX9_hangsOf_L39 a1 (fX9_hangsOf_L8 a1 n) v3 ((1 : Int32) <<< (v3 &&& 31)) v2 h))
set_option maxRecDepth 100000 in
set_option maxHeartbeats 4000000 in
theorem sX9_hangsOf_L8 {g : fd_G} {hm : fd_H} {a1 : Int32} {r : Int32 × fd_H} : ∀ (n : Nat) (v2 : Int32) (v3 : Int32) (h : fd_H), fX9_hangsOf_L8 a1 n v2 v3 h = some r → fd_A g mX9_hangsOf fd_E (fd_rm 8 0 0) (fd_Q g (some (.int r.1)) fd_X0 (fd_mx hm r.2) 0 0) 8 [(0, .ref (g.2.2.2 + 73)), (1, .int a1), (2, .int v2), (3, .int v3)] [] fd_X0 (fd_mx hm h) 0 0 := by
  intro n
  induction n with
  | zero =>
    intro _ _ _ hf
    cases hf
  | succ n ih =>
    intro v2 v3 h hf
    rw [fX9_hangsOf_L8] at hf
    refine fr_iload_n (pc := 8) dX9_hangsOf_8 3 rfl rfl ?_
    refine fr_bipush (pc := 9) (v := (6 : Int32)) dX9_hangsOf_9 (by decide) ?_
    refine fr_icmp_ge (pc := 11) 47 dX9_hangsOf_11 (by decide) (fun c1 => ?_) (fun c1 => ?_)
    · have hf := fd_t c1 hf
      refine fr_iload_n (pc := 47) dX9_hangsOf_47 2 rfl rfl ?_
      exact vm_iretW (x := v2) (pc := 48) dX9_hangsOf_48 rfl hf
    · have hf := fd_f c1 hf
      refine fr_iload_n (pc := 14) dX9_hangsOf_14 2 rfl rfl ?_
      refine fr_aload_n (pc := 15) dX9_hangsOf_15 0 rfl rfl ?_
      refine fr_iload_n (pc := 16) dX9_hangsOf_16 3 rfl rfl ?_
      refine fr_iload_n (pc := 17) dX9_hangsOf_17 1 rfl rfl ?_
      refine fr_iconst (pc := 18) (v := (0 : Int32)) dX9_hangsOf_18 (by decide) ?_
      obtain ⟨r3, hc2, hf⟩ := fd_bi hf
      refine fr_callVi (pc := 19) (av := [.int v3, .int a1, .int (0 : Int32)]) dX9_hangsOf_19 yy_X9_owesNow kw_361 (by decide) rfl rfl rfl rfl (Nat.le_of_ble_eq_true rfl) ⟨Nat.le_of_ble_eq_true rfl, Nat.le_of_ble_eq_true rfl, Nat.zero_le _, Nat.zero_le _⟩ (sX9_owesNow hc2) ?_
      refine fr_aload_n (pc := 22) dX9_hangsOf_22 0 rfl rfl ?_
      refine fr_iload_n (pc := 23) dX9_hangsOf_23 3 rfl rfl ?_
      refine fr_iload_n (pc := 24) dX9_hangsOf_24 1 rfl rfl ?_
      refine fr_iconst (pc := 25) (v := (1 : Int32)) dX9_hangsOf_25 (by decide) ?_
      obtain ⟨r5, hc4, hf⟩ := fd_bi hf
      refine fr_callVi (pc := 26) (av := [.int v3, .int a1, .int (1 : Int32)]) dX9_hangsOf_26 yy_X9_owesNow kw_361 (by decide) rfl rfl rfl rfl (Nat.le_of_ble_eq_true rfl) ⟨Nat.le_of_ble_eq_true rfl, Nat.le_of_ble_eq_true rfl, Nat.zero_le _, Nat.zero_le _⟩ (sX9_owesNow hc4) ?_
      refine fr_icmp_le (pc := 29) 38 dX9_hangsOf_29 (by decide) (fun c6 => ?_) (fun c6 => ?_)
      · have hf := fd_t c6 hf
        refine fr_iconst (pc := 38) (v := (0 : Int32)) dX9_hangsOf_38 (by decide) ?_
        refine fr_loc (lv' := [(0, .ref (g.2.2.2 + 73)), (1, .int a1), (3, .int v3)]) [0, 1, 3] rfl ?_
        exact sX9_hangsOf_L39 ih  _ _ _ _ hf
      · have hf := fd_f c6 hf
        refine fr_iconst (pc := 32) (v := (1 : Int32)) dX9_hangsOf_32 (by decide) ?_
        refine fr_iload_n (pc := 33) dX9_hangsOf_33 3 rfl rfl ?_
        refine fr_ishl (pc := 34) dX9_hangsOf_34 ?_
        refine fr_goto (pc := 35) 39 dX9_hangsOf_35 (by decide) ?_
        refine fr_loc (lv' := [(0, .ref (g.2.2.2 + 73)), (1, .int a1), (3, .int v3)]) [0, 1, 3] rfl ?_
        exact sX9_hangsOf_L39 ih  _ _ _ _ hf
def fX9_hangsOf (a1 : Int32) (h : fd_H) : Option (Int32 × fd_H) :=
(fX9_laysTold h).bind fun h2 =>
fX9_hangsOf_L8 a1 fd_fu (0 : Int32) (0 : Int32) h2
set_option maxRecDepth 100000 in
set_option maxHeartbeats 4000000 in
theorem sX9_hangsOf {g : fd_G} {hm : fd_H} {a1 : Int32} {r : Int32 × fd_H} {h : fd_H} (hf : fX9_hangsOf a1 h = some r) : fd_S g mX9_hangsOf 8 [.ref (g.2.2.2 + 73), .int a1] fd_X0 (fd_mx hm h) (some (.int r.1)) fd_X0 (fd_mx hm r.2) 0 0 := by
  refine fd_S.of (by decide +kernel) (Nat.le_of_ble_eq_true rfl) ?_
  unfold fX9_hangsOf at hf
  refine fr_loc (lv' := [(0, .ref (g.2.2.2 + 73)), (1, .int a1)]) [0, 1] rfl ?_
  refine fr_aload_n (pc := 0) dX9_hangsOf_0 0 rfl rfl ?_
  obtain ⟨h2, hc1, hf⟩ := fd_bi hf
  refine fr_callVv (pc := 1) (av := []) dX9_hangsOf_1 yy_X9_laysTold kw_592 (by decide) rfl rfl rfl rfl (Nat.le_of_ble_eq_true rfl) ⟨Nat.le_of_ble_eq_true rfl, Nat.le_of_ble_eq_true rfl, Nat.zero_le _, Nat.zero_le _⟩ (sX9_laysTold hc1) ?_
  refine fr_iconst (pc := 4) (v := (0 : Int32)) dX9_hangsOf_4 (by decide) ?_
  refine fr_istore_n (pc := 5) (lv' := [(2, .int (0 : Int32)), (0, .ref (g.2.2.2 + 73)), (1, .int a1)]) dX9_hangsOf_5 rfl (by decide) rfl ?_
  refine fr_iconst (pc := 6) (v := (0 : Int32)) dX9_hangsOf_6 (by decide) ?_
  refine fr_istore_n (pc := 7) (lv' := [(3, .int (0 : Int32)), (2, .int (0 : Int32)), (0, .ref (g.2.2.2 + 73)), (1, .int a1)]) dX9_hangsOf_7 rfl (by decide) rfl ?_
  refine fr_loc (lv' := [(0, .ref (g.2.2.2 + 73)), (1, .int a1), (2, .int (0 : Int32)), (3, .int (0 : Int32))]) [2, 3, 1, 0] rfl ?_
  exact sX9_hangsOf_L8 _  _ _ _ hf
theorem dX9_freeOf_0 : decode cX9_freeOf 0 = .ok (.aload_n 0, 1) := by decide +kernel
theorem dX9_freeOf_1 : decode cX9_freeOf 1 = .ok (.invokevirtual 180, 3) := by decide +kernel
theorem dX9_freeOf_4 : decode cX9_freeOf 4 = .ok (.iconst (-1), 1) := by decide +kernel
theorem dX9_freeOf_5 : decode cX9_freeOf 5 = .ok (.istore_n 3, 1) := by decide +kernel
theorem dX9_freeOf_6 : decode cX9_freeOf 6 = .ok (.iconst 0, 1) := by decide +kernel
theorem dX9_freeOf_7 : decode cX9_freeOf 7 = .ok (.istore 4, 2) := by decide +kernel
theorem dX9_freeOf_9 : decode cX9_freeOf 9 = .ok (.bipush 39, 2) := by decide +kernel
theorem dX9_freeOf_11 : decode cX9_freeOf 11 = .ok (.istore 5, 2) := by decide +kernel
theorem dX9_freeOf_13 : decode cX9_freeOf 13 = .ok (.iload 5, 2) := by decide +kernel
theorem dX9_freeOf_15 : decode cX9_freeOf 15 = .ok (.iload_n 2, 1) := by decide +kernel
theorem dX9_freeOf_16 : decode cX9_freeOf 16 = .ok (.if_icmp .lt 44, 3) := by decide +kernel
theorem dX9_freeOf_19 : decode cX9_freeOf 19 = .ok (.iload 4, 2) := by decide +kernel
theorem dX9_freeOf_21 : decode cX9_freeOf 21 = .ok (.ifCond .ne 14, 3) := by decide +kernel
theorem dX9_freeOf_24 : decode cX9_freeOf 24 = .ok (.aload_n 0, 1) := by decide +kernel
theorem dX9_freeOf_25 : decode cX9_freeOf 25 = .ok (.iload_n 1, 1) := by decide +kernel
theorem dX9_freeOf_26 : decode cX9_freeOf 26 = .ok (.iload 5, 2) := by decide +kernel
theorem dX9_freeOf_28 : decode cX9_freeOf 28 = .ok (.iconst 0, 1) := by decide +kernel
theorem dX9_freeOf_29 : decode cX9_freeOf 29 = .ok (.invokevirtual 207, 3) := by decide +kernel
theorem dX9_freeOf_32 : decode cX9_freeOf 32 = .ok (.ifCond .le 7, 3) := by decide +kernel
theorem dX9_freeOf_35 : decode cX9_freeOf 35 = .ok (.iconst 1, 1) := by decide +kernel
theorem dX9_freeOf_36 : decode cX9_freeOf 36 = .ok (.goto 4, 3) := by decide +kernel
theorem dX9_freeOf_39 : decode cX9_freeOf 39 = .ok (.iconst 0, 1) := by decide +kernel
theorem dX9_freeOf_40 : decode cX9_freeOf 40 = .ok (.istore 4, 2) := by decide +kernel
theorem dX9_freeOf_42 : decode cX9_freeOf 42 = .ok (.iload 4, 2) := by decide +kernel
theorem dX9_freeOf_44 : decode cX9_freeOf 44 = .ok (.ifCond .eq 7, 3) := by decide +kernel
theorem dX9_freeOf_47 : decode cX9_freeOf 47 = .ok (.iload_n 3, 1) := by decide +kernel
theorem dX9_freeOf_48 : decode cX9_freeOf 48 = .ok (.goto 5, 3) := by decide +kernel
theorem dX9_freeOf_51 : decode cX9_freeOf 51 = .ok (.iload 5, 2) := by decide +kernel
theorem dX9_freeOf_53 : decode cX9_freeOf 53 = .ok (.istore_n 3, 1) := by decide +kernel
theorem dX9_freeOf_54 : decode cX9_freeOf 54 = .ok (.iinc 5 (-1), 3) := by decide +kernel
theorem dX9_freeOf_57 : decode cX9_freeOf 57 = .ok (.goto (-44), 3) := by decide +kernel
theorem dX9_freeOf_60 : decode cX9_freeOf 60 = .ok (.iload_n 3, 1) := by decide +kernel
theorem dX9_freeOf_61 : decode cX9_freeOf 61 = .ok (.ireturn, 1) := by decide +kernel
def fX9_freeOf_L53 (a1 : Int32) (a2 : Int32) (K13 : Int32 → Bool → Int32 → fd_H → Option (Int32 × fd_H)) (v4 : Bool) (v5 : Int32) (vs0 : Int32) (h : fd_H) : Option (Int32 × fd_H) :=
K13 vs0 v4 (v5 + (-1 : Int32)) h
set_option maxRecDepth 100000 in
set_option maxHeartbeats 4000000 in
theorem sX9_freeOf_L53 {g : fd_G} {hm : fd_H} {a1 : Int32} {a2 : Int32} {r : Int32 × fd_H} {K13 : Int32 → Bool → Int32 → fd_H → Option (Int32 × fd_H)} (hK13 : ∀ (v3 : Int32) (v4 : Bool) (v5 : Int32) (h : fd_H), K13 v3 v4 v5 h = some r → fd_A g mX9_freeOf fd_E (fd_rm 8 0 0) (fd_Q g (some (.int r.1)) fd_X0 (fd_mx hm r.2) 0 0) 13 [(0, .ref (g.2.2.2 + 73)), (1, .int a1), (2, .int a2), (3, .int v3), (4, .int (fd_b v4)), (5, .int v5)] [] fd_X0 (fd_mx hm h) 0 0) : ∀ (v4 : Bool) (v5 : Int32) (vs0 : Int32) (h : fd_H), fX9_freeOf_L53 a1 a2 K13 v4 v5 vs0 h = some r → fd_A g mX9_freeOf fd_E (fd_rm 8 0 0) (fd_Q g (some (.int r.1)) fd_X0 (fd_mx hm r.2) 0 0) 53 [(0, .ref (g.2.2.2 + 73)), (1, .int a1), (2, .int a2), (4, .int (fd_b v4)), (5, .int v5)] [.int vs0] fd_X0 (fd_mx hm h) 0 0 := by
  intro v4 v5 vs0 h hf
  unfold fX9_freeOf_L53 at hf
  refine fr_istore_n (pc := 53) (lv' := [(3, .int vs0), (0, .ref (g.2.2.2 + 73)), (1, .int a1), (2, .int a2), (4, .int (fd_b v4)), (5, .int v5)]) dX9_freeOf_53 rfl (by decide) rfl ?_
  refine fr_iinc (pc := 54) (v := (v5 + (-1 : Int32))) (lv' := [(5, .int (v5 + (-1 : Int32))), (3, .int vs0), (0, .ref (g.2.2.2 + 73)), (1, .int a1), (2, .int a2), (4, .int (fd_b v4))]) dX9_freeOf_54 5 rfl rfl (by decide) rfl ?_
  refine fr_goto (pc := 57) 13 dX9_freeOf_57 (by decide) ?_
  refine fr_loc (lv' := [(0, .ref (g.2.2.2 + 73)), (1, .int a1), (2, .int a2), (3, .int vs0), (4, .int (fd_b v4)), (5, .int (v5 + (-1 : Int32)))]) [2, 3, 4, 1, 5, 0] rfl ?_
  exact hK13 _ _ _ _ hf
def fX9_freeOf_L40 (a1 : Int32) (a2 : Int32) (K13 : Int32 → Bool → Int32 → fd_H → Option (Int32 × fd_H)) (v3 : Int32) (v5 : Int32) (vs0 : Bool) (h : fd_H) : Option (Int32 × fd_H) :=
if vs0 = true then (
fX9_freeOf_L53 a1 a2 K13 vs0 v5 v3 h)
else (
fX9_freeOf_L53 a1 a2 K13 vs0 v5 v5 h)
set_option maxRecDepth 100000 in
set_option maxHeartbeats 4000000 in
theorem sX9_freeOf_L40 {g : fd_G} {hm : fd_H} {a1 : Int32} {a2 : Int32} {r : Int32 × fd_H} {K13 : Int32 → Bool → Int32 → fd_H → Option (Int32 × fd_H)} (hK13 : ∀ (v3 : Int32) (v4 : Bool) (v5 : Int32) (h : fd_H), K13 v3 v4 v5 h = some r → fd_A g mX9_freeOf fd_E (fd_rm 8 0 0) (fd_Q g (some (.int r.1)) fd_X0 (fd_mx hm r.2) 0 0) 13 [(0, .ref (g.2.2.2 + 73)), (1, .int a1), (2, .int a2), (3, .int v3), (4, .int (fd_b v4)), (5, .int v5)] [] fd_X0 (fd_mx hm h) 0 0) : ∀ (v3 : Int32) (v5 : Int32) (vs0 : Bool) (h : fd_H), fX9_freeOf_L40 a1 a2 K13 v3 v5 vs0 h = some r → fd_A g mX9_freeOf fd_E (fd_rm 8 0 0) (fd_Q g (some (.int r.1)) fd_X0 (fd_mx hm r.2) 0 0) 40 [(0, .ref (g.2.2.2 + 73)), (1, .int a1), (2, .int a2), (3, .int v3), (5, .int v5)] [.int (fd_b vs0)] fd_X0 (fd_mx hm h) 0 0 := by
  intro v3 v5 vs0 h hf
  unfold fX9_freeOf_L40 at hf
  refine fr_istore (pc := 40) (lv' := [(4, .int (fd_b vs0)), (0, .ref (g.2.2.2 + 73)), (1, .int a1), (2, .int a2), (3, .int v3), (5, .int v5)]) dX9_freeOf_40 (by decide) rfl ?_
  refine fr_iload (pc := 42) dX9_freeOf_42 0 rfl ?_
  refine fr_bz (pc := 44) 51 dX9_freeOf_44 (by decide) (fun c1 => ?_) (fun c1 => ?_)
  · have hf := fd_f c1 hf
    refine fr_iload (pc := 51) dX9_freeOf_51 5 rfl ?_
    refine fr_loc (lv' := [(0, .ref (g.2.2.2 + 73)), (1, .int a1), (2, .int a2), (4, .int (fd_b vs0)), (5, .int v5)]) [1, 2, 3, 0, 5] rfl ?_
    exact sX9_freeOf_L53 hK13  _ _ _ _ hf
  · have hf := fd_t c1 hf
    refine fr_iload_n (pc := 47) dX9_freeOf_47 4 rfl rfl ?_
    refine fr_goto (pc := 48) 53 dX9_freeOf_48 (by decide) ?_
    refine fr_loc (lv' := [(0, .ref (g.2.2.2 + 73)), (1, .int a1), (2, .int a2), (4, .int (fd_b vs0)), (5, .int v5)]) [1, 2, 3, 0, 5] rfl ?_
    exact sX9_freeOf_L53 hK13  _ _ _ _ hf
def fX9_freeOf_L13 (a1 : Int32) (a2 : Int32) : Nat → Int32 → Bool → Int32 → fd_H → Option (Int32 × fd_H)
  | 0 => fun _ _ _ _ => none
  | n + 1 => fun v3 v4 v5 h =>
if v5 < a2 then (
some (v3, h))
else (
if v4 = true then (
fX9_freeOf_L40 a1 a2 (fX9_freeOf_L13 a1 a2 n) v3 v5 true h)
else (
(fX9_owesNow a1 v5 (0 : Int32) h).bind fun r4 =>
if r4 ≤ 0 then (
fX9_freeOf_L40 a1 a2 (fX9_freeOf_L13 a1 a2 n) v3 v5 false h)
else (
fX9_freeOf_L40 a1 a2 (fX9_freeOf_L13 a1 a2 n) v3 v5 true h)))
set_option maxRecDepth 100000 in
set_option maxHeartbeats 4000000 in
theorem sX9_freeOf_L13 {g : fd_G} {hm : fd_H} {a1 : Int32} {a2 : Int32} {r : Int32 × fd_H} : ∀ (n : Nat) (v3 : Int32) (v4 : Bool) (v5 : Int32) (h : fd_H), fX9_freeOf_L13 a1 a2 n v3 v4 v5 h = some r → fd_A g mX9_freeOf fd_E (fd_rm 8 0 0) (fd_Q g (some (.int r.1)) fd_X0 (fd_mx hm r.2) 0 0) 13 [(0, .ref (g.2.2.2 + 73)), (1, .int a1), (2, .int a2), (3, .int v3), (4, .int (fd_b v4)), (5, .int v5)] [] fd_X0 (fd_mx hm h) 0 0 := by
  intro n
  induction n with
  | zero =>
    intro _ _ _ _ hf
    cases hf
  | succ n ih =>
    intro v3 v4 v5 h hf
    rw [fX9_freeOf_L13] at hf
    refine fr_iload (pc := 13) dX9_freeOf_13 5 rfl ?_
    refine fr_iload_n (pc := 15) dX9_freeOf_15 2 rfl rfl ?_
    refine fr_icmp_lt (pc := 16) 60 dX9_freeOf_16 (by decide) (fun c1 => ?_) (fun c1 => ?_)
    · have hf := fd_t c1 hf
      refine fr_iload_n (pc := 60) dX9_freeOf_60 3 rfl rfl ?_
      exact vm_iretW (x := v3) (pc := 61) dX9_freeOf_61 rfl hf
    · have hf := fd_f c1 hf
      refine fr_iload (pc := 19) dX9_freeOf_19 4 rfl ?_
      refine fr_bn (pc := 21) 35 dX9_freeOf_21 (by decide) (fun c2 => ?_) (fun c2 => ?_)
      · have hf := fd_t c2 hf
        refine fr_iconst (pc := 35) (v := (1 : Int32)) dX9_freeOf_35 (by decide) ?_
        refine fr_goto (pc := 36) 40 dX9_freeOf_36 (by decide) ?_
        refine fr_loc (lv' := [(0, .ref (g.2.2.2 + 73)), (1, .int a1), (2, .int a2), (3, .int v3), (5, .int v5)]) [0, 1, 2, 3, 5] rfl ?_
        exact sX9_freeOf_L40 ih  _ _ _ _ hf
      · have hf := fd_f c2 hf
        refine fr_aload_n (pc := 24) dX9_freeOf_24 0 rfl rfl ?_
        refine fr_iload_n (pc := 25) dX9_freeOf_25 1 rfl rfl ?_
        refine fr_iload (pc := 26) dX9_freeOf_26 5 rfl ?_
        refine fr_iconst (pc := 28) (v := (0 : Int32)) dX9_freeOf_28 (by decide) ?_
        obtain ⟨r4, hc3, hf⟩ := fd_bi hf
        refine fr_callVi (pc := 29) (av := [.int a1, .int v5, .int (0 : Int32)]) dX9_freeOf_29 yy_X9_owesNow kw_361 (by decide) rfl rfl rfl rfl (Nat.le_of_ble_eq_true rfl) ⟨Nat.le_of_ble_eq_true rfl, Nat.le_of_ble_eq_true rfl, Nat.zero_le _, Nat.zero_le _⟩ (sX9_owesNow hc3) ?_
        refine fr_if_le (pc := 32) 39 dX9_freeOf_32 (by decide) (fun c5 => ?_) (fun c5 => ?_)
        · have hf := fd_t c5 hf
          refine fr_iconst (pc := 39) (v := (0 : Int32)) dX9_freeOf_39 (by decide) ?_
          refine fr_loc (lv' := [(0, .ref (g.2.2.2 + 73)), (1, .int a1), (2, .int a2), (3, .int v3), (5, .int v5)]) [0, 1, 2, 3, 5] rfl ?_
          exact sX9_freeOf_L40 ih  _ _ _ _ hf
        · have hf := fd_f c5 hf
          refine fr_iconst (pc := 35) (v := (1 : Int32)) dX9_freeOf_35 (by decide) ?_
          refine fr_goto (pc := 36) 40 dX9_freeOf_36 (by decide) ?_
          refine fr_loc (lv' := [(0, .ref (g.2.2.2 + 73)), (1, .int a1), (2, .int a2), (3, .int v3), (5, .int v5)]) [0, 1, 2, 3, 5] rfl ?_
          exact sX9_freeOf_L40 ih  _ _ _ _ hf
def fX9_freeOf (a1 : Int32) (a2 : Int32) (h : fd_H) : Option (Int32 × fd_H) :=
(fX9_laysTold h).bind fun h2 =>
fX9_freeOf_L13 a1 a2 fd_fu (-1 : Int32) false (39 : Int32) h2
set_option maxRecDepth 100000 in
set_option maxHeartbeats 4000000 in
theorem sX9_freeOf {g : fd_G} {hm : fd_H} {a1 : Int32} {a2 : Int32} {r : Int32 × fd_H} {h : fd_H} (hf : fX9_freeOf a1 a2 h = some r) : fd_S g mX9_freeOf 8 [.ref (g.2.2.2 + 73), .int a1, .int a2] fd_X0 (fd_mx hm h) (some (.int r.1)) fd_X0 (fd_mx hm r.2) 0 0 := by
  refine fd_S.of (by decide +kernel) (Nat.le_of_ble_eq_true rfl) ?_
  unfold fX9_freeOf at hf
  refine fr_loc (lv' := [(0, .ref (g.2.2.2 + 73)), (1, .int a1), (2, .int a2)]) [0, 1, 2] rfl ?_
  refine fr_aload_n (pc := 0) dX9_freeOf_0 0 rfl rfl ?_
  obtain ⟨h2, hc1, hf⟩ := fd_bi hf
  refine fr_callVv (pc := 1) (av := []) dX9_freeOf_1 yy_X9_laysTold kw_592 (by decide) rfl rfl rfl rfl (Nat.le_of_ble_eq_true rfl) ⟨Nat.le_of_ble_eq_true rfl, Nat.le_of_ble_eq_true rfl, Nat.zero_le _, Nat.zero_le _⟩ (sX9_laysTold hc1) ?_
  refine fr_iconst (pc := 4) (v := (-1 : Int32)) dX9_freeOf_4 (by decide) ?_
  refine fr_istore_n (pc := 5) (lv' := [(3, .int (-1 : Int32)), (0, .ref (g.2.2.2 + 73)), (1, .int a1), (2, .int a2)]) dX9_freeOf_5 rfl (by decide) rfl ?_
  refine fr_iconst (pc := 6) (v := (0 : Int32)) dX9_freeOf_6 (by decide) ?_
  refine fr_istore (pc := 7) (lv' := [(4, .int (0 : Int32)), (3, .int (-1 : Int32)), (0, .ref (g.2.2.2 + 73)), (1, .int a1), (2, .int a2)]) dX9_freeOf_7 (by decide) rfl ?_
  refine fr_bipush (pc := 9) (v := (39 : Int32)) dX9_freeOf_9 (by decide) ?_
  refine fr_istore (pc := 11) (lv' := [(5, .int (39 : Int32)), (4, .int (0 : Int32)), (3, .int (-1 : Int32)), (0, .ref (g.2.2.2 + 73)), (1, .int a1), (2, .int a2)]) dX9_freeOf_11 (by decide) rfl ?_
  refine fr_loc (lv' := [(0, .ref (g.2.2.2 + 73)), (1, .int a1), (2, .int a2), (3, .int (-1 : Int32)), (4, .int (fd_b false)), (5, .int (39 : Int32))]) [3, 4, 5, 2, 1, 0] rfl ?_
  exact sX9_freeOf_L13 _  _ _ _ _ hf
theorem dX9_whereOf_0 : decode cX9_whereOf 0 = .ok (.aload_n 0, 1) := by decide +kernel
theorem dX9_whereOf_1 : decode cX9_whereOf 1 = .ok (.invokevirtual 180, 3) := by decide +kernel
theorem dX9_whereOf_4 : decode cX9_whereOf 4 = .ok (.iconst (-1), 1) := by decide +kernel
theorem dX9_whereOf_5 : decode cX9_whereOf 5 = .ok (.istore 4, 2) := by decide +kernel
theorem dX9_whereOf_7 : decode cX9_whereOf 7 = .ok (.iconst (-1), 1) := by decide +kernel
theorem dX9_whereOf_8 : decode cX9_whereOf 8 = .ok (.istore 5, 2) := by decide +kernel
theorem dX9_whereOf_10 : decode cX9_whereOf 10 = .ok (.iconst 0, 1) := by decide +kernel
theorem dX9_whereOf_11 : decode cX9_whereOf 11 = .ok (.istore 6, 2) := by decide +kernel
theorem dX9_whereOf_13 : decode cX9_whereOf 13 = .ok (.iload 6, 2) := by decide +kernel
theorem dX9_whereOf_15 : decode cX9_whereOf 15 = .ok (.aload_n 0, 1) := by decide +kernel
theorem dX9_whereOf_16 : decode cX9_whereOf 16 = .ok (.getfield 105, 3) := by decide +kernel
theorem dX9_whereOf_19 : decode cX9_whereOf 19 = .ok (.if_icmp .ge 81, 3) := by decide +kernel
theorem dX9_whereOf_22 : decode cX9_whereOf 22 = .ok (.aload_n 0, 1) := by decide +kernel
theorem dX9_whereOf_23 : decode cX9_whereOf 23 = .ok (.iload_n 1, 1) := by decide +kernel
theorem dX9_whereOf_24 : decode cX9_whereOf 24 = .ok (.iload 6, 2) := by decide +kernel
theorem dX9_whereOf_26 : decode cX9_whereOf 26 = .ok (.invokevirtual 198, 3) := by decide +kernel
theorem dX9_whereOf_29 : decode cX9_whereOf 29 = .ok (.istore 7, 2) := by decide +kernel
theorem dX9_whereOf_31 : decode cX9_whereOf 31 = .ok (.iload 4, 2) := by decide +kernel
theorem dX9_whereOf_33 : decode cX9_whereOf 33 = .ok (.iconst (-1), 1) := by decide +kernel
theorem dX9_whereOf_34 : decode cX9_whereOf 34 = .ok (.if_icmp .eq 25, 3) := by decide +kernel
theorem dX9_whereOf_37 : decode cX9_whereOf 37 = .ok (.iload_n 2, 1) := by decide +kernel
theorem dX9_whereOf_38 : decode cX9_whereOf 38 = .ok (.iconst 1, 1) := by decide +kernel
theorem dX9_whereOf_39 : decode cX9_whereOf 39 = .ok (.if_icmp .ne 13, 3) := by decide +kernel
theorem dX9_whereOf_42 : decode cX9_whereOf 42 = .ok (.iload 7, 2) := by decide +kernel
theorem dX9_whereOf_44 : decode cX9_whereOf 44 = .ok (.iload 5, 2) := by decide +kernel
theorem dX9_whereOf_46 : decode cX9_whereOf 46 = .ok (.if_icmp .le 17, 3) := by decide +kernel
theorem dX9_whereOf_49 : decode cX9_whereOf 49 = .ok (.goto 10, 3) := by decide +kernel
theorem dX9_whereOf_52 : decode cX9_whereOf 52 = .ok (.iload 7, 2) := by decide +kernel
theorem dX9_whereOf_54 : decode cX9_whereOf 54 = .ok (.iload 5, 2) := by decide +kernel
theorem dX9_whereOf_56 : decode cX9_whereOf 56 = .ok (.if_icmp .ge 7, 3) := by decide +kernel
theorem dX9_whereOf_59 : decode cX9_whereOf 59 = .ok (.iconst 1, 1) := by decide +kernel
theorem dX9_whereOf_60 : decode cX9_whereOf 60 = .ok (.goto 4, 3) := by decide +kernel
theorem dX9_whereOf_63 : decode cX9_whereOf 63 = .ok (.iconst 0, 1) := by decide +kernel
theorem dX9_whereOf_64 : decode cX9_whereOf 64 = .ok (.istore 8, 2) := by decide +kernel
theorem dX9_whereOf_66 : decode cX9_whereOf 66 = .ok (.iload 8, 2) := by decide +kernel
theorem dX9_whereOf_68 : decode cX9_whereOf 68 = .ok (.ifCond .eq 8, 3) := by decide +kernel
theorem dX9_whereOf_71 : decode cX9_whereOf 71 = .ok (.iload 6, 2) := by decide +kernel
theorem dX9_whereOf_73 : decode cX9_whereOf 73 = .ok (.goto 5, 3) := by decide +kernel
theorem dX9_whereOf_76 : decode cX9_whereOf 76 = .ok (.iload 4, 2) := by decide +kernel
theorem dX9_whereOf_78 : decode cX9_whereOf 78 = .ok (.istore 4, 2) := by decide +kernel
theorem dX9_whereOf_80 : decode cX9_whereOf 80 = .ok (.iload 8, 2) := by decide +kernel
theorem dX9_whereOf_82 : decode cX9_whereOf 82 = .ok (.ifCond .eq 8, 3) := by decide +kernel
theorem dX9_whereOf_85 : decode cX9_whereOf 85 = .ok (.iload 7, 2) := by decide +kernel
theorem dX9_whereOf_87 : decode cX9_whereOf 87 = .ok (.goto 5, 3) := by decide +kernel
theorem dX9_whereOf_90 : decode cX9_whereOf 90 = .ok (.iload 5, 2) := by decide +kernel
theorem dX9_whereOf_92 : decode cX9_whereOf 92 = .ok (.istore 5, 2) := by decide +kernel
theorem dX9_whereOf_94 : decode cX9_whereOf 94 = .ok (.iinc 6 1, 3) := by decide +kernel
theorem dX9_whereOf_97 : decode cX9_whereOf 97 = .ok (.goto (-84), 3) := by decide +kernel
theorem dX9_whereOf_100 : decode cX9_whereOf 100 = .ok (.iload_n 3, 1) := by decide +kernel
theorem dX9_whereOf_101 : decode cX9_whereOf 101 = .ok (.ifCond .ne 8, 3) := by decide +kernel
theorem dX9_whereOf_104 : decode cX9_whereOf 104 = .ok (.iload 4, 2) := by decide +kernel
theorem dX9_whereOf_106 : decode cX9_whereOf 106 = .ok (.goto 5, 3) := by decide +kernel
theorem dX9_whereOf_109 : decode cX9_whereOf 109 = .ok (.iload 5, 2) := by decide +kernel
theorem dX9_whereOf_111 : decode cX9_whereOf 111 = .ok (.ireturn, 1) := by decide +kernel
def fX9_whereOf_L92 (a1 : Int32) (a2 : Int32) (a3 : Int32) (K13 : Int32 → Int32 → Int32 → fd_H → Option (Int32 × fd_H)) (v4 : Int32) (v6 : Int32) (vs0 : Int32) (h : fd_H) : Option (Int32 × fd_H) :=
K13 v4 vs0 (v6 + (1 : Int32)) h
set_option maxRecDepth 100000 in
set_option maxHeartbeats 4000000 in
theorem sX9_whereOf_L92 {g : fd_G} {hm : fd_H} {a1 : Int32} {a2 : Int32} {a3 : Int32} {r : Int32 × fd_H} {K13 : Int32 → Int32 → Int32 → fd_H → Option (Int32 × fd_H)} (hK13 : ∀ (v4 : Int32) (v5 : Int32) (v6 : Int32) (h : fd_H), K13 v4 v5 v6 h = some r → fd_A g mX9_whereOf fd_E (fd_rm 8 0 0) (fd_Q g (some (.int r.1)) fd_X0 (fd_mx hm r.2) 0 0) 13 [(0, .ref (g.2.2.2 + 73)), (1, .int a1), (2, .int a2), (3, .int a3), (4, .int v4), (5, .int v5), (6, .int v6)] [] fd_X0 (fd_mx hm h) 0 0) : ∀ (v4 : Int32) (v6 : Int32) (vs0 : Int32) (h : fd_H), fX9_whereOf_L92 a1 a2 a3 K13 v4 v6 vs0 h = some r → fd_A g mX9_whereOf fd_E (fd_rm 8 0 0) (fd_Q g (some (.int r.1)) fd_X0 (fd_mx hm r.2) 0 0) 92 [(0, .ref (g.2.2.2 + 73)), (1, .int a1), (2, .int a2), (3, .int a3), (4, .int v4), (6, .int v6)] [.int vs0] fd_X0 (fd_mx hm h) 0 0 := by
  intro v4 v6 vs0 h hf
  unfold fX9_whereOf_L92 at hf
  refine fr_istore (pc := 92) (lv' := [(5, .int vs0), (0, .ref (g.2.2.2 + 73)), (1, .int a1), (2, .int a2), (3, .int a3), (4, .int v4), (6, .int v6)]) dX9_whereOf_92 (by decide) rfl ?_
  refine fr_iinc (pc := 94) (v := (v6 + (1 : Int32))) (lv' := [(6, .int (v6 + (1 : Int32))), (5, .int vs0), (0, .ref (g.2.2.2 + 73)), (1, .int a1), (2, .int a2), (3, .int a3), (4, .int v4)]) dX9_whereOf_94 6 rfl rfl (by decide) rfl ?_
  refine fr_goto (pc := 97) 13 dX9_whereOf_97 (by decide) ?_
  refine fr_loc (lv' := [(0, .ref (g.2.2.2 + 73)), (1, .int a1), (2, .int a2), (3, .int a3), (4, .int v4), (5, .int vs0), (6, .int (v6 + (1 : Int32)))]) [2, 3, 4, 5, 6, 1, 0] rfl ?_
  exact hK13 _ _ _ _ hf
def fX9_whereOf_L78 (a1 : Int32) (a2 : Int32) (a3 : Int32) (K13 : Int32 → Int32 → Int32 → fd_H → Option (Int32 × fd_H)) (v5 : Int32) (v6 : Int32) (v7 : Int32) (v8 : Bool) (vs0 : Int32) (h : fd_H) : Option (Int32 × fd_H) :=
if v8 = true then (
fX9_whereOf_L92 a1 a2 a3 K13 vs0 v6 v7 h)
else (
fX9_whereOf_L92 a1 a2 a3 K13 vs0 v6 v5 h)
set_option maxRecDepth 100000 in
set_option maxHeartbeats 4000000 in
theorem sX9_whereOf_L78 {g : fd_G} {hm : fd_H} {a1 : Int32} {a2 : Int32} {a3 : Int32} {r : Int32 × fd_H} {K13 : Int32 → Int32 → Int32 → fd_H → Option (Int32 × fd_H)} (hK13 : ∀ (v4 : Int32) (v5 : Int32) (v6 : Int32) (h : fd_H), K13 v4 v5 v6 h = some r → fd_A g mX9_whereOf fd_E (fd_rm 8 0 0) (fd_Q g (some (.int r.1)) fd_X0 (fd_mx hm r.2) 0 0) 13 [(0, .ref (g.2.2.2 + 73)), (1, .int a1), (2, .int a2), (3, .int a3), (4, .int v4), (5, .int v5), (6, .int v6)] [] fd_X0 (fd_mx hm h) 0 0) : ∀ (v5 : Int32) (v6 : Int32) (v7 : Int32) (v8 : Bool) (vs0 : Int32) (h : fd_H), fX9_whereOf_L78 a1 a2 a3 K13 v5 v6 v7 v8 vs0 h = some r → fd_A g mX9_whereOf fd_E (fd_rm 8 0 0) (fd_Q g (some (.int r.1)) fd_X0 (fd_mx hm r.2) 0 0) 78 [(0, .ref (g.2.2.2 + 73)), (1, .int a1), (2, .int a2), (3, .int a3), (5, .int v5), (6, .int v6), (7, .int v7), (8, .int (fd_b v8))] [.int vs0] fd_X0 (fd_mx hm h) 0 0 := by
  intro v5 v6 v7 v8 vs0 h hf
  unfold fX9_whereOf_L78 at hf
  refine fr_istore (pc := 78) (lv' := [(4, .int vs0), (0, .ref (g.2.2.2 + 73)), (1, .int a1), (2, .int a2), (3, .int a3), (5, .int v5), (6, .int v6), (7, .int v7), (8, .int (fd_b v8))]) dX9_whereOf_78 (by decide) rfl ?_
  refine fr_iload (pc := 80) dX9_whereOf_80 8 rfl ?_
  refine fr_bz (pc := 82) 90 dX9_whereOf_82 (by decide) (fun c1 => ?_) (fun c1 => ?_)
  · have hf := fd_f c1 hf
    refine fr_iload (pc := 90) dX9_whereOf_90 5 rfl ?_
    refine fr_loc (lv' := [(0, .ref (g.2.2.2 + 73)), (1, .int a1), (2, .int a2), (3, .int a3), (4, .int vs0), (6, .int v6)]) [1, 2, 3, 4, 0, 6] rfl ?_
    exact sX9_whereOf_L92 hK13  _ _ _ _ hf
  · have hf := fd_t c1 hf
    refine fr_iload (pc := 85) dX9_whereOf_85 7 rfl ?_
    refine fr_goto (pc := 87) 92 dX9_whereOf_87 (by decide) ?_
    refine fr_loc (lv' := [(0, .ref (g.2.2.2 + 73)), (1, .int a1), (2, .int a2), (3, .int a3), (4, .int vs0), (6, .int v6)]) [1, 2, 3, 4, 0, 6] rfl ?_
    exact sX9_whereOf_L92 hK13  _ _ _ _ hf
def fX9_whereOf_L64 (a1 : Int32) (a2 : Int32) (a3 : Int32) (K13 : Int32 → Int32 → Int32 → fd_H → Option (Int32 × fd_H)) (v4 : Int32) (v5 : Int32) (v6 : Int32) (v7 : Int32) (vs0 : Bool) (h : fd_H) : Option (Int32 × fd_H) :=
if vs0 = true then (
fX9_whereOf_L78 a1 a2 a3 K13 v5 v6 v7 vs0 v6 h)
else (
fX9_whereOf_L78 a1 a2 a3 K13 v5 v6 v7 vs0 v4 h)
set_option maxRecDepth 100000 in
set_option maxHeartbeats 4000000 in
theorem sX9_whereOf_L64 {g : fd_G} {hm : fd_H} {a1 : Int32} {a2 : Int32} {a3 : Int32} {r : Int32 × fd_H} {K13 : Int32 → Int32 → Int32 → fd_H → Option (Int32 × fd_H)} (hK13 : ∀ (v4 : Int32) (v5 : Int32) (v6 : Int32) (h : fd_H), K13 v4 v5 v6 h = some r → fd_A g mX9_whereOf fd_E (fd_rm 8 0 0) (fd_Q g (some (.int r.1)) fd_X0 (fd_mx hm r.2) 0 0) 13 [(0, .ref (g.2.2.2 + 73)), (1, .int a1), (2, .int a2), (3, .int a3), (4, .int v4), (5, .int v5), (6, .int v6)] [] fd_X0 (fd_mx hm h) 0 0) : ∀ (v4 : Int32) (v5 : Int32) (v6 : Int32) (v7 : Int32) (vs0 : Bool) (h : fd_H), fX9_whereOf_L64 a1 a2 a3 K13 v4 v5 v6 v7 vs0 h = some r → fd_A g mX9_whereOf fd_E (fd_rm 8 0 0) (fd_Q g (some (.int r.1)) fd_X0 (fd_mx hm r.2) 0 0) 64 [(0, .ref (g.2.2.2 + 73)), (1, .int a1), (2, .int a2), (3, .int a3), (4, .int v4), (5, .int v5), (6, .int v6), (7, .int v7)] [.int (fd_b vs0)] fd_X0 (fd_mx hm h) 0 0 := by
  intro v4 v5 v6 v7 vs0 h hf
  unfold fX9_whereOf_L64 at hf
  refine fr_istore (pc := 64) (lv' := [(8, .int (fd_b vs0)), (0, .ref (g.2.2.2 + 73)), (1, .int a1), (2, .int a2), (3, .int a3), (4, .int v4), (5, .int v5), (6, .int v6), (7, .int v7)]) dX9_whereOf_64 (by decide) rfl ?_
  refine fr_iload (pc := 66) dX9_whereOf_66 0 rfl ?_
  refine fr_bz (pc := 68) 76 dX9_whereOf_68 (by decide) (fun c1 => ?_) (fun c1 => ?_)
  · have hf := fd_f c1 hf
    refine fr_iload (pc := 76) dX9_whereOf_76 5 rfl ?_
    refine fr_loc (lv' := [(0, .ref (g.2.2.2 + 73)), (1, .int a1), (2, .int a2), (3, .int a3), (5, .int v5), (6, .int v6), (7, .int v7), (8, .int (fd_b vs0))]) [1, 2, 3, 4, 6, 7, 8, 0] rfl ?_
    exact sX9_whereOf_L78 hK13  _ _ _ _ _ _ hf
  · have hf := fd_t c1 hf
    refine fr_iload (pc := 71) dX9_whereOf_71 7 rfl ?_
    refine fr_goto (pc := 73) 78 dX9_whereOf_73 (by decide) ?_
    refine fr_loc (lv' := [(0, .ref (g.2.2.2 + 73)), (1, .int a1), (2, .int a2), (3, .int a3), (5, .int v5), (6, .int v6), (7, .int v7), (8, .int (fd_b vs0))]) [1, 2, 3, 4, 6, 7, 8, 0] rfl ?_
    exact sX9_whereOf_L78 hK13  _ _ _ _ _ _ hf
def fX9_whereOf_L63 (a1 : Int32) (a2 : Int32) (a3 : Int32) (K13 : Int32 → Int32 → Int32 → fd_H → Option (Int32 × fd_H)) (v4 : Int32) (v5 : Int32) (v6 : Int32) (v7 : Int32) (h : fd_H) : Option (Int32 × fd_H) :=
fX9_whereOf_L64 a1 a2 a3 K13 v4 v5 v6 v7 false h
set_option maxRecDepth 100000 in
set_option maxHeartbeats 4000000 in
theorem sX9_whereOf_L63 {g : fd_G} {hm : fd_H} {a1 : Int32} {a2 : Int32} {a3 : Int32} {r : Int32 × fd_H} {K13 : Int32 → Int32 → Int32 → fd_H → Option (Int32 × fd_H)} (hK13 : ∀ (v4 : Int32) (v5 : Int32) (v6 : Int32) (h : fd_H), K13 v4 v5 v6 h = some r → fd_A g mX9_whereOf fd_E (fd_rm 8 0 0) (fd_Q g (some (.int r.1)) fd_X0 (fd_mx hm r.2) 0 0) 13 [(0, .ref (g.2.2.2 + 73)), (1, .int a1), (2, .int a2), (3, .int a3), (4, .int v4), (5, .int v5), (6, .int v6)] [] fd_X0 (fd_mx hm h) 0 0) : ∀ (v4 : Int32) (v5 : Int32) (v6 : Int32) (v7 : Int32) (h : fd_H), fX9_whereOf_L63 a1 a2 a3 K13 v4 v5 v6 v7 h = some r → fd_A g mX9_whereOf fd_E (fd_rm 8 0 0) (fd_Q g (some (.int r.1)) fd_X0 (fd_mx hm r.2) 0 0) 63 [(0, .ref (g.2.2.2 + 73)), (1, .int a1), (2, .int a2), (3, .int a3), (4, .int v4), (5, .int v5), (6, .int v6), (7, .int v7)] [] fd_X0 (fd_mx hm h) 0 0 := by
  intro v4 v5 v6 v7 h hf
  unfold fX9_whereOf_L63 at hf
  refine fr_iconst (pc := 63) (v := (0 : Int32)) dX9_whereOf_63 (by decide) ?_
  refine fr_loc (lv' := [(0, .ref (g.2.2.2 + 73)), (1, .int a1), (2, .int a2), (3, .int a3), (4, .int v4), (5, .int v5), (6, .int v6), (7, .int v7)]) [0, 1, 2, 3, 4, 5, 6, 7] rfl ?_
  exact sX9_whereOf_L64 hK13  _ _ _ _ _ _ hf
def fX9_whereOf_L13 (a1 : Int32) (a2 : Int32) (a3 : Int32) : Nat → Int32 → Int32 → Int32 → fd_H → Option (Int32 × fd_H)
  | 0 => fun _ _ _ _ => none
  | n + 1 => fun v4 v5 v6 h =>
if (h.1 73 2) ≤ v6 then (
if a3 = 0 then (
some (v4, h))
else (
some (v5, h)))
else (
(fX9_standsFor a1 v6 h).bind fun r4 =>
if v4 = (-1 : Int32) then (
fX9_whereOf_L64 a1 a2 a3 (fX9_whereOf_L13 a1 a2 a3 n) v4 v5 v6 r4 true h)
else (
if a2 = (1 : Int32) then (
if r4 ≤ v5 then (
fX9_whereOf_L63 a1 a2 a3 (fX9_whereOf_L13 a1 a2 a3 n) v4 v5 v6 r4 h)
else (
fX9_whereOf_L64 a1 a2 a3 (fX9_whereOf_L13 a1 a2 a3 n) v4 v5 v6 r4 true h))
else (
if v5 ≤ r4 then (
fX9_whereOf_L63 a1 a2 a3 (fX9_whereOf_L13 a1 a2 a3 n) v4 v5 v6 r4 h)
else (
fX9_whereOf_L64 a1 a2 a3 (fX9_whereOf_L13 a1 a2 a3 n) v4 v5 v6 r4 true h))))
set_option maxRecDepth 100000 in
set_option maxHeartbeats 4000000 in
theorem sX9_whereOf_L13 {g : fd_G} {hm : fd_H} {a1 : Int32} {a2 : Int32} {a3 : Int32} {r : Int32 × fd_H} : ∀ (n : Nat) (v4 : Int32) (v5 : Int32) (v6 : Int32) (h : fd_H), fX9_whereOf_L13 a1 a2 a3 n v4 v5 v6 h = some r → fd_A g mX9_whereOf fd_E (fd_rm 8 0 0) (fd_Q g (some (.int r.1)) fd_X0 (fd_mx hm r.2) 0 0) 13 [(0, .ref (g.2.2.2 + 73)), (1, .int a1), (2, .int a2), (3, .int a3), (4, .int v4), (5, .int v5), (6, .int v6)] [] fd_X0 (fd_mx hm h) 0 0 := by
  intro n
  induction n with
  | zero =>
    intro _ _ _ _ hf
    cases hf
  | succ n ih =>
    intro v4 v5 v6 h hf
    rw [fX9_whereOf_L13] at hf
    refine fr_iload (pc := 13) dX9_whereOf_13 6 rfl ?_
    refine fr_aload_n (pc := 15) dX9_whereOf_15 0 rfl rfl ?_
    refine vm_getI (pc := 16) dX9_whereOf_16 fl_X9_105 (by decide) (by decide) rfl rfl ?_
    refine fr_icmp_ge (pc := 19) 100 dX9_whereOf_19 (by decide) (fun c1 => ?_) (fun c1 => ?_)
    · have hf := fd_t c1 hf
      refine fr_iload_n (pc := 100) dX9_whereOf_100 3 rfl rfl ?_
      refine fr_if_ne (pc := 101) 109 dX9_whereOf_101 (by decide) (fun c2 => ?_) (fun c2 => ?_)
      · have hf := fd_f c2 hf
        refine fr_iload (pc := 109) dX9_whereOf_109 5 rfl ?_
        exact vm_iretW (x := v5) (pc := 111) dX9_whereOf_111 rfl hf
      · have hf := fd_t c2 hf
        refine fr_iload (pc := 104) dX9_whereOf_104 4 rfl ?_
        refine fr_goto (pc := 106) 111 dX9_whereOf_106 (by decide) ?_
        exact vm_iretW (x := v4) (pc := 111) dX9_whereOf_111 rfl hf
    · have hf := fd_f c1 hf
      refine fr_aload_n (pc := 22) dX9_whereOf_22 0 rfl rfl ?_
      refine fr_iload_n (pc := 23) dX9_whereOf_23 1 rfl rfl ?_
      refine fr_iload (pc := 24) dX9_whereOf_24 6 rfl ?_
      obtain ⟨r4, hc3, hf⟩ := fd_bi hf
      refine fr_callVi (pc := 26) (av := [.int a1, .int v6]) dX9_whereOf_26 yy_X9_standsFor kw_596 (by decide) rfl rfl rfl rfl (Nat.le_of_ble_eq_true rfl) ⟨Nat.le_of_ble_eq_true rfl, Nat.le_of_ble_eq_true rfl, Nat.zero_le _, Nat.zero_le _⟩ (sX9_standsFor hc3) ?_
      refine fr_istore (pc := 29) (lv' := [(7, .int r4), (0, .ref (g.2.2.2 + 73)), (1, .int a1), (2, .int a2), (3, .int a3), (4, .int v4), (5, .int v5), (6, .int v6)]) dX9_whereOf_29 (by decide) rfl ?_
      refine fr_iload (pc := 31) dX9_whereOf_31 5 rfl ?_
      refine fr_iconst (pc := 33) (v := (-1 : Int32)) dX9_whereOf_33 (by decide) ?_
      refine fr_icmp_eq (pc := 34) 59 dX9_whereOf_34 (by decide) (fun c5 => ?_) (fun c5 => ?_)
      · have hf := fd_t c5 hf
        refine fr_iconst (pc := 59) (v := (1 : Int32)) dX9_whereOf_59 (by decide) ?_
        refine fr_goto (pc := 60) 64 dX9_whereOf_60 (by decide) ?_
        refine fr_loc (lv' := [(0, .ref (g.2.2.2 + 73)), (1, .int a1), (2, .int a2), (3, .int a3), (4, .int v4), (5, .int v5), (6, .int v6), (7, .int r4)]) [1, 2, 3, 4, 5, 6, 7, 0] rfl ?_
        exact sX9_whereOf_L64 ih  _ _ _ _ _ _ hf
      · have hf := fd_f c5 hf
        refine fr_iload_n (pc := 37) dX9_whereOf_37 3 rfl rfl ?_
        refine fr_iconst (pc := 38) (v := (1 : Int32)) dX9_whereOf_38 (by decide) ?_
        refine fr_icmp_ne (pc := 39) 52 dX9_whereOf_39 (by decide) (fun c6 => ?_) (fun c6 => ?_)
        · have hf := fd_f c6 hf
          refine fr_iload (pc := 52) dX9_whereOf_52 0 rfl ?_
          refine fr_iload (pc := 54) dX9_whereOf_54 6 rfl ?_
          refine fr_icmp_ge (pc := 56) 63 dX9_whereOf_56 (by decide) (fun c7 => ?_) (fun c7 => ?_)
          · have hf := fd_t c7 hf
            refine fr_loc (lv' := [(0, .ref (g.2.2.2 + 73)), (1, .int a1), (2, .int a2), (3, .int a3), (4, .int v4), (5, .int v5), (6, .int v6), (7, .int r4)]) [1, 2, 3, 4, 5, 6, 7, 0] rfl ?_
            exact sX9_whereOf_L63 ih  _ _ _ _ _ hf
          · have hf := fd_f c7 hf
            refine fr_iconst (pc := 59) (v := (1 : Int32)) dX9_whereOf_59 (by decide) ?_
            refine fr_goto (pc := 60) 64 dX9_whereOf_60 (by decide) ?_
            refine fr_loc (lv' := [(0, .ref (g.2.2.2 + 73)), (1, .int a1), (2, .int a2), (3, .int a3), (4, .int v4), (5, .int v5), (6, .int v6), (7, .int r4)]) [1, 2, 3, 4, 5, 6, 7, 0] rfl ?_
            exact sX9_whereOf_L64 ih  _ _ _ _ _ _ hf
        · have hf := fd_t c6 hf
          refine fr_iload (pc := 42) dX9_whereOf_42 0 rfl ?_
          refine fr_iload (pc := 44) dX9_whereOf_44 6 rfl ?_
          refine fr_icmp_le (pc := 46) 63 dX9_whereOf_46 (by decide) (fun c8 => ?_) (fun c8 => ?_)
          · have hf := fd_t c8 hf
            refine fr_loc (lv' := [(0, .ref (g.2.2.2 + 73)), (1, .int a1), (2, .int a2), (3, .int a3), (4, .int v4), (5, .int v5), (6, .int v6), (7, .int r4)]) [1, 2, 3, 4, 5, 6, 7, 0] rfl ?_
            exact sX9_whereOf_L63 ih  _ _ _ _ _ hf
          · have hf := fd_f c8 hf
            refine fr_goto (pc := 49) 59 dX9_whereOf_49 (by decide) ?_
            refine fr_iconst (pc := 59) (v := (1 : Int32)) dX9_whereOf_59 (by decide) ?_
            refine fr_goto (pc := 60) 64 dX9_whereOf_60 (by decide) ?_
            refine fr_loc (lv' := [(0, .ref (g.2.2.2 + 73)), (1, .int a1), (2, .int a2), (3, .int a3), (4, .int v4), (5, .int v5), (6, .int v6), (7, .int r4)]) [1, 2, 3, 4, 5, 6, 7, 0] rfl ?_
            exact sX9_whereOf_L64 ih  _ _ _ _ _ _ hf
def fX9_whereOf (a1 : Int32) (a2 : Int32) (a3 : Int32) (h : fd_H) : Option (Int32 × fd_H) :=
(fX9_laysTold h).bind fun h2 =>
fX9_whereOf_L13 a1 a2 a3 fd_fu (-1 : Int32) (-1 : Int32) (0 : Int32) h2
set_option maxRecDepth 100000 in
set_option maxHeartbeats 4000000 in
theorem sX9_whereOf {g : fd_G} {hm : fd_H} {a1 : Int32} {a2 : Int32} {a3 : Int32} {r : Int32 × fd_H} {h : fd_H} (hf : fX9_whereOf a1 a2 a3 h = some r) : fd_S g mX9_whereOf 8 [.ref (g.2.2.2 + 73), .int a1, .int a2, .int a3] fd_X0 (fd_mx hm h) (some (.int r.1)) fd_X0 (fd_mx hm r.2) 0 0 := by
  refine fd_S.of (by decide +kernel) (Nat.le_of_ble_eq_true rfl) ?_
  unfold fX9_whereOf at hf
  refine fr_loc (lv' := [(0, .ref (g.2.2.2 + 73)), (1, .int a1), (2, .int a2), (3, .int a3)]) [0, 1, 2, 3] rfl ?_
  refine fr_aload_n (pc := 0) dX9_whereOf_0 0 rfl rfl ?_
  obtain ⟨h2, hc1, hf⟩ := fd_bi hf
  refine fr_callVv (pc := 1) (av := []) dX9_whereOf_1 yy_X9_laysTold kw_592 (by decide) rfl rfl rfl rfl (Nat.le_of_ble_eq_true rfl) ⟨Nat.le_of_ble_eq_true rfl, Nat.le_of_ble_eq_true rfl, Nat.zero_le _, Nat.zero_le _⟩ (sX9_laysTold hc1) ?_
  refine fr_iconst (pc := 4) (v := (-1 : Int32)) dX9_whereOf_4 (by decide) ?_
  refine fr_istore (pc := 5) (lv' := [(4, .int (-1 : Int32)), (0, .ref (g.2.2.2 + 73)), (1, .int a1), (2, .int a2), (3, .int a3)]) dX9_whereOf_5 (by decide) rfl ?_
  refine fr_iconst (pc := 7) (v := (-1 : Int32)) dX9_whereOf_7 (by decide) ?_
  refine fr_istore (pc := 8) (lv' := [(5, .int (-1 : Int32)), (4, .int (-1 : Int32)), (0, .ref (g.2.2.2 + 73)), (1, .int a1), (2, .int a2), (3, .int a3)]) dX9_whereOf_8 (by decide) rfl ?_
  refine fr_iconst (pc := 10) (v := (0 : Int32)) dX9_whereOf_10 (by decide) ?_
  refine fr_istore (pc := 11) (lv' := [(6, .int (0 : Int32)), (5, .int (-1 : Int32)), (4, .int (-1 : Int32)), (0, .ref (g.2.2.2 + 73)), (1, .int a1), (2, .int a2), (3, .int a3)]) dX9_whereOf_11 (by decide) rfl ?_
  refine fr_loc (lv' := [(0, .ref (g.2.2.2 + 73)), (1, .int a1), (2, .int a2), (3, .int a3), (4, .int (-1 : Int32)), (5, .int (-1 : Int32)), (6, .int (0 : Int32))]) [3, 4, 5, 6, 2, 1, 0] rfl ?_
  exact sX9_whereOf_L13 _  _ _ _ _ hf
theorem dX9_keep_0 : decode cX9_keep 0 = .ok (.aload_n 0, 1) := by decide +kernel
theorem dX9_keep_1 : decode cX9_keep 1 = .ok (.iload_n 1, 1) := by decide +kernel
theorem dX9_keep_2 : decode cX9_keep 2 = .ok (.invokevirtual 134, 3) := by decide +kernel
theorem dX9_keep_5 : decode cX9_keep 5 = .ok (.ifCond .eq 30, 3) := by decide +kernel
theorem dX9_keep_8 : decode cX9_keep 8 = .ok (.iload_n 2, 1) := by decide +kernel
theorem dX9_keep_9 : decode cX9_keep 9 = .ok (.invokestatic 146, 3) := by decide +kernel
theorem dX9_keep_12 : decode cX9_keep 12 = .ok (.ifCond .eq 23, 3) := by decide +kernel
theorem dX9_keep_15 : decode cX9_keep 15 = .ok (.iload_n 3, 1) := by decide +kernel
theorem dX9_keep_16 : decode cX9_keep 16 = .ok (.iconst (-1), 1) := by decide +kernel
theorem dX9_keep_17 : decode cX9_keep 17 = .ok (.bipush 39, 2) := by decide +kernel
theorem dX9_keep_19 : decode cX9_keep 19 = .ok (.invokestatic 89, 3) := by decide +kernel
theorem dX9_keep_22 : decode cX9_keep 22 = .ok (.ifCond .eq 13, 3) := by decide +kernel
theorem dX9_keep_25 : decode cX9_keep 25 = .ok (.aload_n 0, 1) := by decide +kernel
theorem dX9_keep_26 : decode cX9_keep 26 = .ok (.iload_n 1, 1) := by decide +kernel
theorem dX9_keep_27 : decode cX9_keep 27 = .ok (.iload_n 2, 1) := by decide +kernel
theorem dX9_keep_28 : decode cX9_keep 28 = .ok (.iload_n 3, 1) := by decide +kernel
theorem dX9_keep_29 : decode cX9_keep 29 = .ok (.invokevirtual 222, 3) := by decide +kernel
theorem dX9_keep_32 : decode cX9_keep 32 = .ok (.goto 5, 3) := by decide +kernel
theorem dX9_keep_35 : decode cX9_keep 35 = .ok (.bipush (-2), 2) := by decide +kernel
theorem dX9_keep_37 : decode cX9_keep 37 = .ok (.ireturn, 1) := by decide +kernel
def fX9_keep (a1 : Int32) (a2 : Int32) (a3 : Int32) (h : fd_H) : Option (Int32 × fd_H) :=
(fX9_isPlace a1 h).bind fun q2 =>
if q2.1 = true then (
(fX9_isForty a2).bind fun r5 =>
if r5 = true then (
(fX9_in a3 (-1 : Int32) (39 : Int32)).bind fun r8 =>
if r8 = true then (
(fX9_keepOf a1 a2 a3 q2.2).bind fun q11 =>
some (q11.1, q11.2))
else (
some ((-2 : Int32), q2.2)))
else (
some ((-2 : Int32), q2.2)))
else (
some ((-2 : Int32), q2.2))
set_option maxRecDepth 100000 in
set_option maxHeartbeats 4000000 in
theorem sX9_keep {g : fd_G} {hm : fd_H} {a1 : Int32} {a2 : Int32} {a3 : Int32} {r : Int32 × fd_H} {h : fd_H} (hf : fX9_keep a1 a2 a3 h = some r) : fd_S g mX9_keep 8 [.ref (g.2.2.2 + 73), .int a1, .int a2, .int a3] fd_X0 (fd_mx hm h) (some (.int r.1)) fd_X0 (fd_mx hm r.2) 0 0 := by
  refine fd_S.of (by decide +kernel) (Nat.le_of_ble_eq_true rfl) ?_
  unfold fX9_keep at hf
  refine fr_loc (lv' := [(0, .ref (g.2.2.2 + 73)), (1, .int a1), (2, .int a2), (3, .int a3)]) [0, 1, 2, 3] rfl ?_
  refine fr_aload_n (pc := 0) dX9_keep_0 0 rfl rfl ?_
  refine fr_iload_n (pc := 1) dX9_keep_1 1 rfl rfl ?_
  obtain ⟨q2, hc1, hf⟩ := fd_bi hf
  refine fr_callVz (pc := 2) (av := [.int a1]) dX9_keep_2 yy_X9_isPlace kw_547 (by decide) rfl rfl rfl rfl (Nat.le_of_ble_eq_true rfl) ⟨Nat.le_of_ble_eq_true rfl, Nat.le_of_ble_eq_true rfl, Nat.zero_le _, Nat.zero_le _⟩ (sX9_isPlace hc1) ?_
  refine fr_bz (pc := 5) 35 dX9_keep_5 (by decide) (fun c3 => ?_) (fun c3 => ?_)
  · have hf := fd_f c3 hf
    refine fr_bipush (pc := 35) (v := (-2 : Int32)) dX9_keep_35 (by decide) ?_
    exact vm_iretW (x := (-2 : Int32)) (pc := 37) dX9_keep_37 rfl hf
  · have hf := fd_t c3 hf
    refine fr_iload_n (pc := 8) dX9_keep_8 2 rfl rfl ?_
    obtain ⟨r5, hc4, hf⟩ := fd_bi hf
    refine fr_callSz (pc := 9) (av := [.int a2]) dX9_keep_9 yy_X9_isForty kw_246 rfl rfl (Nat.le_of_ble_eq_true rfl) ⟨Nat.le_of_ble_eq_true rfl, Nat.le_of_ble_eq_true rfl, Nat.zero_le _, Nat.zero_le _⟩ (sX9_isForty hc4) ?_
    refine fr_bz (pc := 12) 35 dX9_keep_12 (by decide) (fun c6 => ?_) (fun c6 => ?_)
    · have hf := fd_f c6 hf
      refine fr_bipush (pc := 35) (v := (-2 : Int32)) dX9_keep_35 (by decide) ?_
      exact vm_iretW (x := (-2 : Int32)) (pc := 37) dX9_keep_37 rfl hf
    · have hf := fd_t c6 hf
      refine fr_iload_n (pc := 15) dX9_keep_15 3 rfl rfl ?_
      refine fr_iconst (pc := 16) (v := (-1 : Int32)) dX9_keep_16 (by decide) ?_
      refine fr_bipush (pc := 17) (v := (39 : Int32)) dX9_keep_17 (by decide) ?_
      obtain ⟨r8, hc7, hf⟩ := fd_bi hf
      refine fr_callSz (pc := 19) (av := [.int a3, .int (-1 : Int32), .int (39 : Int32)]) dX9_keep_19 yy_X9_in kw_148 rfl rfl (Nat.le_of_ble_eq_true rfl) ⟨Nat.le_of_ble_eq_true rfl, Nat.le_of_ble_eq_true rfl, Nat.zero_le _, Nat.zero_le _⟩ (sX9_in hc7) ?_
      refine fr_bz (pc := 22) 35 dX9_keep_22 (by decide) (fun c9 => ?_) (fun c9 => ?_)
      · have hf := fd_f c9 hf
        refine fr_bipush (pc := 35) (v := (-2 : Int32)) dX9_keep_35 (by decide) ?_
        exact vm_iretW (x := (-2 : Int32)) (pc := 37) dX9_keep_37 rfl hf
      · have hf := fd_t c9 hf
        refine fr_aload_n (pc := 25) dX9_keep_25 0 rfl rfl ?_
        refine fr_iload_n (pc := 26) dX9_keep_26 1 rfl rfl ?_
        refine fr_iload_n (pc := 27) dX9_keep_27 2 rfl rfl ?_
        refine fr_iload_n (pc := 28) dX9_keep_28 3 rfl rfl ?_
        obtain ⟨q11, hc10, hf⟩ := fd_bi hf
        refine fr_callVi (pc := 29) (av := [.int a1, .int a2, .int a3]) dX9_keep_29 yy_X9_keepOf kw_600 (by decide) rfl rfl rfl rfl (Nat.le_of_ble_eq_true rfl) ⟨Nat.le_of_ble_eq_true rfl, Nat.le_of_ble_eq_true rfl, Nat.zero_le _, Nat.zero_le _⟩ (sX9_keepOf hc10) ?_
        refine fr_goto (pc := 32) 37 dX9_keep_32 (by decide) ?_
        exact vm_iretW (x := q11.1) (pc := 37) dX9_keep_37 rfl hf
theorem dX9_carryOf_0 : decode cX9_carryOf 0 = .ok (.aload_n 0, 1) := by decide +kernel
theorem dX9_carryOf_1 : decode cX9_carryOf 1 = .ok (.iload_n 1, 1) := by decide +kernel
theorem dX9_carryOf_2 : decode cX9_carryOf 2 = .ok (.iload_n 2, 1) := by decide +kernel
theorem dX9_carryOf_3 : decode cX9_carryOf 3 = .ok (.invokevirtual 229, 3) := by decide +kernel
theorem dX9_carryOf_6 : decode cX9_carryOf 6 = .ok (.istore 4, 2) := by decide +kernel
theorem dX9_carryOf_8 : decode cX9_carryOf 8 = .ok (.iload_n 3, 1) := by decide +kernel
theorem dX9_carryOf_9 : decode cX9_carryOf 9 = .ok (.iconst (-1), 1) := by decide +kernel
theorem dX9_carryOf_10 : decode cX9_carryOf 10 = .ok (.if_icmp .ne 8, 3) := by decide +kernel
theorem dX9_carryOf_13 : decode cX9_carryOf 13 = .ok (.iload 4, 2) := by decide +kernel
theorem dX9_carryOf_15 : decode cX9_carryOf 15 = .ok (.goto 19, 3) := by decide +kernel
theorem dX9_carryOf_18 : decode cX9_carryOf 18 = .ok (.iload_n 3, 1) := by decide +kernel
theorem dX9_carryOf_19 : decode cX9_carryOf 19 = .ok (.iload 4, 2) := by decide +kernel
theorem dX9_carryOf_21 : decode cX9_carryOf 21 = .ok (.if_icmp .ge 12, 3) := by decide +kernel
theorem dX9_carryOf_24 : decode cX9_carryOf 24 = .ok (.aload_n 0, 1) := by decide +kernel
theorem dX9_carryOf_25 : decode cX9_carryOf 25 = .ok (.getfield 56, 3) := by decide +kernel
theorem dX9_carryOf_28 : decode cX9_carryOf 28 = .ok (.iload_n 3, 1) := by decide +kernel
theorem dX9_carryOf_29 : decode cX9_carryOf 29 = .ok (.iaload, 1) := by decide +kernel
theorem dX9_carryOf_30 : decode cX9_carryOf 30 = .ok (.goto 4, 3) := by decide +kernel
theorem dX9_carryOf_33 : decode cX9_carryOf 33 = .ok (.iconst (-1), 1) := by decide +kernel
theorem dX9_carryOf_34 : decode cX9_carryOf 34 = .ok (.ireturn, 1) := by decide +kernel
def fX9_carryOf (a1 : Int32) (a2 : Int32) (a3 : Int32) (h : fd_H) : Option (Int32 × fd_H) :=
(fX9_carryBy a1 a2 h).bind fun q2 =>
if a3 = (-1 : Int32) then (
some (q2.1, q2.2))
else (
if q2.1 ≤ a3 then (
some ((-1 : Int32), q2.2))
else (
fd_g (fd_in a3 3) (
some ((q2.2.1 89 a3.toNatClampNeg), q2.2))))
set_option maxRecDepth 100000 in
set_option maxHeartbeats 4000000 in
theorem sX9_carryOf {g : fd_G} {hm : fd_H} {a1 : Int32} {a2 : Int32} {a3 : Int32} {r : Int32 × fd_H} {h : fd_H} (hf : fX9_carryOf a1 a2 a3 h = some r) : fd_S g mX9_carryOf 8 [.ref (g.2.2.2 + 73), .int a1, .int a2, .int a3] fd_X0 (fd_mx hm h) (some (.int r.1)) fd_X0 (fd_mx hm r.2) 0 0 := by
  refine fd_S.of (by decide +kernel) (Nat.le_of_ble_eq_true rfl) ?_
  unfold fX9_carryOf at hf
  refine fr_loc (lv' := [(0, .ref (g.2.2.2 + 73)), (1, .int a1), (2, .int a2), (3, .int a3)]) [0, 1, 2, 3] rfl ?_
  refine fr_aload_n (pc := 0) dX9_carryOf_0 0 rfl rfl ?_
  refine fr_iload_n (pc := 1) dX9_carryOf_1 1 rfl rfl ?_
  refine fr_iload_n (pc := 2) dX9_carryOf_2 2 rfl rfl ?_
  obtain ⟨q2, hc1, hf⟩ := fd_bi hf
  refine fr_callVi (pc := 3) (av := [.int a1, .int a2]) dX9_carryOf_3 yy_X9_carryBy kw_604 (by decide) rfl rfl rfl rfl (Nat.le_of_ble_eq_true rfl) ⟨Nat.le_of_ble_eq_true rfl, Nat.le_of_ble_eq_true rfl, Nat.zero_le _, Nat.zero_le _⟩ (sX9_carryBy hc1) ?_
  refine fr_istore (pc := 6) (lv' := [(4, .int q2.1), (0, .ref (g.2.2.2 + 73)), (1, .int a1), (2, .int a2), (3, .int a3)]) dX9_carryOf_6 (by decide) rfl ?_
  refine fr_iload_n (pc := 8) dX9_carryOf_8 4 rfl rfl ?_
  refine fr_iconst (pc := 9) (v := (-1 : Int32)) dX9_carryOf_9 (by decide) ?_
  refine fr_icmp_ne (pc := 10) 18 dX9_carryOf_10 (by decide) (fun c3 => ?_) (fun c3 => ?_)
  · have hf := fd_f c3 hf
    refine fr_iload_n (pc := 18) dX9_carryOf_18 4 rfl rfl ?_
    refine fr_iload (pc := 19) dX9_carryOf_19 0 rfl ?_
    refine fr_icmp_ge (pc := 21) 33 dX9_carryOf_21 (by decide) (fun c4 => ?_) (fun c4 => ?_)
    · have hf := fd_t c4 hf
      refine fr_iconst (pc := 33) (v := (-1 : Int32)) dX9_carryOf_33 (by decide) ?_
      exact vm_iretW (x := (-1 : Int32)) (pc := 34) dX9_carryOf_34 rfl hf
    · have hf := fd_f c4 hf
      refine fr_aload_n (pc := 24) dX9_carryOf_24 1 rfl rfl ?_
      refine fr_getR (pc := 25) dX9_carryOf_25 fl_X9_56 (by decide) rfl rfl ?_
      refine fr_iload_n (pc := 28) dX9_carryOf_28 4 rfl rfl ?_
      obtain ⟨g5, hf⟩ := fd_g_e hf
      refine vm_iald (pc := 29) dX9_carryOf_29 (by decide) (by decide) rfl g5 ?_
      refine fr_goto (pc := 30) 34 dX9_carryOf_30 (by decide) ?_
      exact vm_iretW (x := (q2.2.1 89 a3.toNatClampNeg)) (pc := 34) dX9_carryOf_34 rfl hf
  · have hf := fd_t c3 hf
    refine fr_iload (pc := 13) dX9_carryOf_13 0 rfl ?_
    refine fr_goto (pc := 15) 34 dX9_carryOf_15 (by decide) ?_
    exact vm_iretW (x := q2.1) (pc := 34) dX9_carryOf_34 rfl hf
theorem dX9_was_0 : decode cX9_was 0 = .ok (.aload_n 0, 1) := by decide +kernel
theorem dX9_was_1 : decode cX9_was 1 = .ok (.iload_n 1, 1) := by decide +kernel
theorem dX9_was_2 : decode cX9_was 2 = .ok (.invokevirtual 137, 3) := by decide +kernel
theorem dX9_was_5 : decode cX9_was 5 = .ok (.ifCond .eq 11, 3) := by decide +kernel
theorem dX9_was_8 : decode cX9_was 8 = .ok (.aload_n 0, 1) := by decide +kernel
theorem dX9_was_9 : decode cX9_was 9 = .ok (.iload_n 1, 1) := by decide +kernel
theorem dX9_was_10 : decode cX9_was 10 = .ok (.invokevirtual 251, 3) := by decide +kernel
theorem dX9_was_13 : decode cX9_was 13 = .ok (.goto 5, 3) := by decide +kernel
theorem dX9_was_16 : decode cX9_was 16 = .ok (.bipush (-2), 2) := by decide +kernel
theorem dX9_was_18 : decode cX9_was 18 = .ok (.ireturn, 1) := by decide +kernel
def fX9_was (a1 : Int32) (h : fd_H) : Option (Int32 × fd_H) :=
(fX9_isNight a1 h).bind fun q2 =>
if q2.1 = true then (
(fX9_wasOf a1 q2.2).bind fun q5 =>
some (q5.1, q5.2))
else (
some ((-2 : Int32), q2.2))
set_option maxRecDepth 100000 in
set_option maxHeartbeats 4000000 in
theorem sX9_was {g : fd_G} {hm : fd_H} {a1 : Int32} {r : Int32 × fd_H} {h : fd_H} (hf : fX9_was a1 h = some r) : fd_S g mX9_was 8 [.ref (g.2.2.2 + 73), .int a1] fd_X0 (fd_mx hm h) (some (.int r.1)) fd_X0 (fd_mx hm r.2) 0 0 := by
  refine fd_S.of (by decide +kernel) (Nat.le_of_ble_eq_true rfl) ?_
  unfold fX9_was at hf
  refine fr_loc (lv' := [(0, .ref (g.2.2.2 + 73)), (1, .int a1)]) [0, 1] rfl ?_
  refine fr_aload_n (pc := 0) dX9_was_0 0 rfl rfl ?_
  refine fr_iload_n (pc := 1) dX9_was_1 1 rfl rfl ?_
  obtain ⟨q2, hc1, hf⟩ := fd_bi hf
  refine fr_callVz (pc := 2) (av := [.int a1]) dX9_was_2 yy_X9_isNight kw_551 (by decide) rfl rfl rfl rfl (Nat.le_of_ble_eq_true rfl) ⟨Nat.le_of_ble_eq_true rfl, Nat.le_of_ble_eq_true rfl, Nat.zero_le _, Nat.zero_le _⟩ (sX9_isNight hc1) ?_
  refine fr_bz (pc := 5) 16 dX9_was_5 (by decide) (fun c3 => ?_) (fun c3 => ?_)
  · have hf := fd_f c3 hf
    refine fr_bipush (pc := 16) (v := (-2 : Int32)) dX9_was_16 (by decide) ?_
    exact vm_iretW (x := (-2 : Int32)) (pc := 18) dX9_was_18 rfl hf
  · have hf := fd_t c3 hf
    refine fr_aload_n (pc := 8) dX9_was_8 0 rfl rfl ?_
    refine fr_iload_n (pc := 9) dX9_was_9 1 rfl rfl ?_
    obtain ⟨q5, hc4, hf⟩ := fd_bi hf
    refine fr_callVi (pc := 10) (av := [.int a1]) dX9_was_10 yy_X9_wasOf kw_608 (by decide) rfl rfl rfl rfl (Nat.le_of_ble_eq_true rfl) ⟨Nat.le_of_ble_eq_true rfl, Nat.le_of_ble_eq_true rfl, Nat.zero_le _, Nat.zero_le _⟩ (sX9_wasOf hc4) ?_
    refine fr_goto (pc := 13) 18 dX9_was_13 (by decide) ?_
    exact vm_iretW (x := q5.1) (pc := 18) dX9_was_18 rfl hf
theorem dX9_carried_0 : decode cX9_carried 0 = .ok (.aload_n 0, 1) := by decide +kernel
theorem dX9_carried_1 : decode cX9_carried 1 = .ok (.invokevirtual 254, 3) := by decide +kernel
theorem dX9_carried_4 : decode cX9_carried 4 = .ok (.ireturn, 1) := by decide +kernel
def fX9_carried  (h : fd_H) : Option (Int32 × fd_H) :=
(fX9_carriedNow h).bind fun q2 =>
some (q2.1, q2.2)
set_option maxRecDepth 100000 in
set_option maxHeartbeats 4000000 in
theorem sX9_carried {g : fd_G} {hm : fd_H} {r : Int32 × fd_H} {h : fd_H} (hf : fX9_carried  h = some r) : fd_S g mX9_carried 8 [.ref (g.2.2.2 + 73)] fd_X0 (fd_mx hm h) (some (.int r.1)) fd_X0 (fd_mx hm r.2) 0 0 := by
  refine fd_S.of (by decide +kernel) (Nat.le_of_ble_eq_true rfl) ?_
  unfold fX9_carried at hf
  refine fr_loc (lv' := [(0, .ref (g.2.2.2 + 73))]) [0] rfl ?_
  refine fr_aload_n (pc := 0) dX9_carried_0 0 rfl rfl ?_
  obtain ⟨q2, hc1, hf⟩ := fd_bi hf
  refine fr_callVi (pc := 1) (av := []) dX9_carried_1 yy_X9_carriedNow kw_612 (by decide) rfl rfl rfl rfl (Nat.le_of_ble_eq_true rfl) ⟨Nat.le_of_ble_eq_true rfl, Nat.le_of_ble_eq_true rfl, Nat.zero_le _, Nat.zero_le _⟩ (sX9_carriedNow hc1) ?_
  exact vm_iretW (x := q2.1) (pc := 4) dX9_carried_4 rfl hf
