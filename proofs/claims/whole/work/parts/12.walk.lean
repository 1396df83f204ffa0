theorem dX8_had_0 : decode cX8_had 0 = .ok (.iload_n 1, 1) := by decide +kernel
theorem dX8_had_1 : decode cX8_had 1 = .ok (.bipush 40, 2) := by decide +kernel
theorem dX8_had_3 : decode cX8_had 3 = .ok (.invokestatic 62, 3) := by decide +kernel
theorem dX8_had_6 : decode cX8_had 6 = .ok (.ifCond .ne 6, 3) := by decide +kernel
theorem dX8_had_9 : decode cX8_had 9 = .ok (.bipush (-2), 2) := by decide +kernel
theorem dX8_had_11 : decode cX8_had 11 = .ok (.ireturn, 1) := by decide +kernel
theorem dX8_had_12 : decode cX8_had 12 = .ok (.iconst 0, 1) := by decide +kernel
theorem dX8_had_13 : decode cX8_had 13 = .ok (.istore_n 2, 1) := by decide +kernel
theorem dX8_had_14 : decode cX8_had 14 = .ok (.iconst 0, 1) := by decide +kernel
theorem dX8_had_15 : decode cX8_had 15 = .ok (.istore_n 3, 1) := by decide +kernel
theorem dX8_had_16 : decode cX8_had 16 = .ok (.iload_n 3, 1) := by decide +kernel
theorem dX8_had_17 : decode cX8_had 17 = .ok (.aload_n 0, 1) := by decide +kernel
theorem dX8_had_18 : decode cX8_had 18 = .ok (.getfield 29, 3) := by decide +kernel
theorem dX8_had_21 : decode cX8_had 21 = .ok (.getfield 150, 3) := by decide +kernel
theorem dX8_had_24 : decode cX8_had 24 = .ok (.if_icmp .ge 30, 3) := by decide +kernel
theorem dX8_had_27 : decode cX8_had 27 = .ok (.aload_n 0, 1) := by decide +kernel
theorem dX8_had_28 : decode cX8_had 28 = .ok (.getfield 21, 3) := by decide +kernel
theorem dX8_had_31 : decode cX8_had 31 = .ok (.getfield 144, 3) := by decide +kernel
theorem dX8_had_34 : decode cX8_had 34 = .ok (.iload_n 3, 1) := by decide +kernel
theorem dX8_had_35 : decode cX8_had 35 = .ok (.iload_n 1, 1) := by decide +kernel
theorem dX8_had_36 : decode cX8_had 36 = .ok (.invokevirtual 151, 3) := by decide +kernel
theorem dX8_had_39 : decode cX8_had 39 = .ok (.ifCond .eq 9, 3) := by decide +kernel
theorem dX8_had_42 : decode cX8_had 42 = .ok (.iload_n 2, 1) := by decide +kernel
theorem dX8_had_43 : decode cX8_had 43 = .ok (.iconst 1, 1) := by decide +kernel
theorem dX8_had_44 : decode cX8_had 44 = .ok (.iload_n 3, 1) := by decide +kernel
theorem dX8_had_45 : decode cX8_had 45 = .ok (.ishl, 1) := by decide +kernel
theorem dX8_had_46 : decode cX8_had 46 = .ok (.ior, 1) := by decide +kernel
theorem dX8_had_47 : decode cX8_had 47 = .ok (.istore_n 2, 1) := by decide +kernel
theorem dX8_had_48 : decode cX8_had 48 = .ok (.iinc 3 1, 3) := by decide +kernel
theorem dX8_had_51 : decode cX8_had 51 = .ok (.goto (-35), 3) := by decide +kernel
theorem dX8_had_54 : decode cX8_had 54 = .ok (.iload_n 2, 1) := by decide +kernel
theorem dX8_had_55 : decode cX8_had 55 = .ok (.ireturn, 1) := by decide +kernel
def fX8_had_L16 (a1 : Int32) (h : fd_H) : Nat → Int32 → Int32 → Option (Int32)
  | 0 => fun _ _ => none
  | n + 1 => fun v2 v3 =>
if (h.1 12 3) ≤ v3 then (
some (v2))
else (
(fX5_isBy 46 v3 a1 h).bind fun r3 =>
if r3 = true then (
fd_lt ((v2 ||| ((1 : Int32) <<< (v3 &&& 31)))) fun x5 =>
fX8_had_L16 a1 h n x5 (v3 + (1 : Int32)))
else (
fX8_had_L16 a1 h n v2 (v3 + (1 : Int32))))
set_option maxRecDepth 100000 in
set_option maxHeartbeats 4000000 in
theorem sX8_had_L16 {g : fd_G} {hm : fd_H} {a1 : Int32} {h : fd_H} {r : Int32} : ∀ (n : Nat) (v2 : Int32) (v3 : Int32), fX8_had_L16 a1 h n v2 v3 = some r → fd_A g mX8_had fd_E (fd_rm 2 0 0) (fd_Q g (some (.int r)) fd_X0 (fd_mx h hm) 0 0) 16 [(0, .ref (g.2.2.2 + 0)), (1, .int a1), (2, .int v2), (3, .int v3)] [] fd_X0 (fd_mx h hm) 0 0 := by
  intro n
  induction n with
  | zero =>
    intro _ _ hf
    cases hf
  | succ n ih =>
    intro v2 v3 hf
    rw [fX8_had_L16] at hf
    refine fr_iload_n (pc := 16) dX8_had_16 3 rfl rfl ?_
    refine fr_aload_n (pc := 17) dX8_had_17 0 rfl rfl ?_
    refine fr_getR (pc := 18) dX8_had_18 fl_X8_29 (by decide) rfl rfl ?_
    refine vx_getI (pc := 21) dX8_had_21 fl_X8_150 (by decide) (by decide) rfl rfl ?_
    refine fr_icmp_ge (pc := 24) 54 dX8_had_24 (by decide) (fun c1 => ?_) (fun c1 => ?_)
    · have hf := fd_t c1 hf
      refine fr_iload_n (pc := 54) dX8_had_54 2 rfl rfl ?_
      exact fr_iretP (x := v2) (pc := 55) dX8_had_55 rfl hf
    · have hf := fd_f c1 hf
      refine fr_aload_n (pc := 27) dX8_had_27 0 rfl rfl ?_
      refine fr_getR (pc := 28) dX8_had_28 fl_X8_21 (by decide) rfl rfl ?_
      refine fr_getR (pc := 31) dX8_had_31 fl_X8_144 (by decide) rfl rfl ?_
      refine fr_iload_n (pc := 34) dX8_had_34 3 rfl rfl ?_
      refine fr_iload_n (pc := 35) dX8_had_35 1 rfl rfl ?_
      obtain ⟨r3, hc2, hf⟩ := fd_bi hf
      refine fr_callVz (pc := 36) (av := [.int v3, .int a1]) dX8_had_36 yy_X5_isBy kw_199 (by decide) rfl rfl rfl rfl (Nat.le_of_ble_eq_true rfl) ⟨Nat.le_of_ble_eq_true rfl, Nat.le_of_ble_eq_true rfl, Nat.zero_le _, Nat.zero_le _⟩ (sX5_isBy is_46 hc2) ?_
      refine fr_bz (pc := 39) 48 dX8_had_39 (by decide) (fun c4 => ?_) (fun c4 => ?_)
      · have hf := fd_f c4 hf
        refine fr_iinc (pc := 48) (v := (v3 + (1 : Int32))) (lv' := [(3, .int (v3 + (1 : Int32))), (0, .ref (g.2.2.2 + 0)), (1, .int a1), (2, .int v2)]) dX8_had_48 3 rfl rfl (by decide) rfl ?_
        refine fr_goto (pc := 51) 16 dX8_had_51 (by decide) ?_
        refine fr_loc (lv' := [(0, .ref (g.2.2.2 + 0)), (1, .int a1), (2, .int v2), (3, .int (v3 + (1 : Int32)))]) [1, 2, 3, 0] rfl ?_
        exact ih _ _ hf
      · have hf := fd_t c4 hf
        refine fr_iload_n (pc := 42) dX8_had_42 2 rfl rfl ?_
        refine fr_iconst (pc := 43) (v := (1 : Int32)) dX8_had_43 (by decide) ?_
        refine fr_iload_n (pc := 44) dX8_had_44 3 rfl rfl ?_
        refine fr_ishl (pc := 45) dX8_had_45 ?_
        refine fr_ior (pc := 46) dX8_had_46 ?_
        obtain ⟨x5, ex5, hf⟩ := fd_lt_e hf
        refine fr_nmi ex5 ?_
        refine fr_istore_n (pc := 47) (lv' := [(2, .int x5), (0, .ref (g.2.2.2 + 0)), (1, .int a1), (3, .int v3)]) dX8_had_47 rfl (by decide) rfl ?_
        refine fr_iinc (pc := 48) (v := (v3 + (1 : Int32))) (lv' := [(3, .int (v3 + (1 : Int32))), (2, .int x5), (0, .ref (g.2.2.2 + 0)), (1, .int a1)]) dX8_had_48 3 rfl rfl (by decide) rfl ?_
        refine fr_goto (pc := 51) 16 dX8_had_51 (by decide) ?_
        refine fr_loc (lv' := [(0, .ref (g.2.2.2 + 0)), (1, .int a1), (2, .int x5), (3, .int (v3 + (1 : Int32)))]) [2, 3, 1, 0] rfl ?_
        exact ih _ _ hf
def fX8_had (a1 : Int32) (h : fd_H) : Option (Int32) :=
(fX8_isBelow a1 (40 : Int32)).bind fun r2 =>
if r2 = true then (
fX8_had_L16 a1 h fd_fu (0 : Int32) (0 : Int32))
else (
some ((-2 : Int32)))
set_option maxRecDepth 100000 in
set_option maxHeartbeats 4000000 in
theorem sX8_had {g : fd_G} {hm : fd_H} {a1 : Int32} {h : fd_H} {r : Int32} (hf : fX8_had a1 h = some r) : fd_S g mX8_had 2 [.ref (g.2.2.2 + 0), .int a1] fd_X0 (fd_mx h hm) (some (.int r)) fd_X0 (fd_mx h hm) 0 0 := by
  refine fd_S.of (by decide +kernel) (Nat.le_of_ble_eq_true rfl) ?_
  unfold fX8_had at hf
  refine fr_loc (lv' := [(0, .ref (g.2.2.2 + 0)), (1, .int a1)]) [0, 1] rfl ?_
  refine fr_iload_n (pc := 0) dX8_had_0 1 rfl rfl ?_
  refine fr_bipush (pc := 1) (v := (40 : Int32)) dX8_had_1 (by decide) ?_
  obtain ⟨r2, hc1, hf⟩ := fd_bi hf
  refine fr_callSz (pc := 3) (av := [.int a1, .int (40 : Int32)]) dX8_had_3 yy_X8_isBelow kw_111 rfl rfl (Nat.le_of_ble_eq_true rfl) ⟨Nat.le_of_ble_eq_true rfl, Nat.le_of_ble_eq_true rfl, Nat.zero_le _, Nat.zero_le _⟩ (sX8_isBelow hc1) ?_
  refine fr_bn (pc := 6) 12 dX8_had_6 (by decide) (fun c3 => ?_) (fun c3 => ?_)
  · have hf := fd_t c3 hf
    refine fr_iconst (pc := 12) (v := (0 : Int32)) dX8_had_12 (by decide) ?_
    refine fr_istore_n (pc := 13) (lv' := [(2, .int (0 : Int32)), (0, .ref (g.2.2.2 + 0)), (1, .int a1)]) dX8_had_13 rfl (by decide) rfl ?_
    refine fr_iconst (pc := 14) (v := (0 : Int32)) dX8_had_14 (by decide) ?_
    refine fr_istore_n (pc := 15) (lv' := [(3, .int (0 : Int32)), (2, .int (0 : Int32)), (0, .ref (g.2.2.2 + 0)), (1, .int a1)]) dX8_had_15 rfl (by decide) rfl ?_
    refine fr_loc (lv' := [(0, .ref (g.2.2.2 + 0)), (1, .int a1), (2, .int (0 : Int32)), (3, .int (0 : Int32))]) [2, 3, 1, 0] rfl ?_
    exact sX8_had_L16 _  _ _ hf
  · have hf := fd_f c3 hf
    refine fr_bipush (pc := 9) (v := (-2 : Int32)) dX8_had_9 (by decide) ?_
    exact fr_iretP (x := (-2 : Int32)) (pc := 11) dX8_had_11 rfl hf
theorem dX8_keep_0 : decode cX8_keep 0 = .ok (.aload_n 0, 1) := by decide +kernel
theorem dX8_keep_1 : decode cX8_keep 1 = .ok (.getfield 29, 3) := by decide +kernel
theorem dX8_keep_4 : decode cX8_keep 4 = .ok (.iload_n 1, 1) := by decide +kernel
theorem dX8_keep_5 : decode cX8_keep 5 = .ok (.invokevirtual 80, 3) := by decide +kernel
theorem dX8_keep_8 : decode cX8_keep 8 = .ok (.ifCond .eq 21, 3) := by decide +kernel
theorem dX8_keep_11 : decode cX8_keep 11 = .ok (.iload_n 2, 1) := by decide +kernel
theorem dX8_keep_12 : decode cX8_keep 12 = .ok (.bipush 40, 2) := by decide +kernel
theorem dX8_keep_14 : decode cX8_keep 14 = .ok (.invokestatic 62, 3) := by decide +kernel
theorem dX8_keep_17 : decode cX8_keep 17 = .ok (.ifCond .eq 12, 3) := by decide +kernel
theorem dX8_keep_20 : decode cX8_keep 20 = .ok (.iload_n 3, 1) := by decide +kernel
theorem dX8_keep_21 : decode cX8_keep 21 = .ok (.bipush 40, 2) := by decide +kernel
theorem dX8_keep_23 : decode cX8_keep 23 = .ok (.invokestatic 173, 3) := by decide +kernel
theorem dX8_keep_26 : decode cX8_keep 26 = .ok (.ifCond .ne 6, 3) := by decide +kernel
theorem dX8_keep_29 : decode cX8_keep 29 = .ok (.bipush (-2), 2) := by decide +kernel
theorem dX8_keep_31 : decode cX8_keep 31 = .ok (.ireturn, 1) := by decide +kernel
theorem dX8_keep_32 : decode cX8_keep 32 = .ok (.aload_n 0, 1) := by decide +kernel
theorem dX8_keep_33 : decode cX8_keep 33 = .ok (.getfield 21, 3) := by decide +kernel
theorem dX8_keep_36 : decode cX8_keep 36 = .ok (.getfield 134, 3) := by decide +kernel
theorem dX8_keep_39 : decode cX8_keep 39 = .ok (.iload_n 1, 1) := by decide +kernel
theorem dX8_keep_40 : decode cX8_keep 40 = .ok (.iload_n 2, 1) := by decide +kernel
theorem dX8_keep_41 : decode cX8_keep 41 = .ok (.invokevirtual 151, 3) := by decide +kernel
theorem dX8_keep_44 : decode cX8_keep 44 = .ok (.ifCond .eq 5, 3) := by decide +kernel
theorem dX8_keep_47 : decode cX8_keep 47 = .ok (.iconst (-1), 1) := by decide +kernel
theorem dX8_keep_48 : decode cX8_keep 48 = .ok (.ireturn, 1) := by decide +kernel
theorem dX8_keep_49 : decode cX8_keep 49 = .ok (.aload_n 0, 1) := by decide +kernel
theorem dX8_keep_50 : decode cX8_keep 50 = .ok (.getfield 21, 3) := by decide +kernel
theorem dX8_keep_53 : decode cX8_keep 53 = .ok (.getfield 144, 3) := by decide +kernel
theorem dX8_keep_56 : decode cX8_keep 56 = .ok (.iload_n 1, 1) := by decide +kernel
theorem dX8_keep_57 : decode cX8_keep 57 = .ok (.invokevirtual 137, 3) := by decide +kernel
theorem dX8_keep_60 : decode cX8_keep 60 = .ok (.iload_n 2, 1) := by decide +kernel
theorem dX8_keep_61 : decode cX8_keep 61 = .ok (.invokestatic 176, 3) := by decide +kernel
theorem dX8_keep_64 : decode cX8_keep 64 = .ok (.land, 1) := by decide +kernel
theorem dX8_keep_65 : decode cX8_keep 65 = .ok (.iload_n 3, 1) := by decide +kernel
theorem dX8_keep_66 : decode cX8_keep 66 = .ok (.invokestatic 179, 3) := by decide +kernel
theorem dX8_keep_69 : decode cX8_keep 69 = .ok (.ireturn, 1) := by decide +kernel
def fX8_keep (a1 : Int32) (a2 : Int32) (a3 : Int32) (h : fd_H) : Option (Int32) :=
(fX2_has a1 h).bind fun r2 =>
if r2 = true then (
(fX8_isBelow a2 (40 : Int32)).bind fun r5 =>
if r5 = true then (
(fX8_isChoice a3 (40 : Int32)).bind fun r8 =>
if r8 = true then (
(fX5_isBy 44 a1 a2 h).bind fun r11 =>
if r11 = true then (
some ((-1 : Int32)))
else (
(fX5_at 46 a1 h).bind fun r14 =>
(fX8_bitsUpTo a2).bind fun r16 =>
(fX8_countOrItem (r14 &&& r16) a3).bind fun r18 =>
some (r18)))
else (
some ((-2 : Int32))))
else (
some ((-2 : Int32))))
else (
some ((-2 : Int32)))
set_option maxRecDepth 100000 in
set_option maxHeartbeats 4000000 in
theorem sX8_keep {g : fd_G} {hm : fd_H} {a1 : Int32} {a2 : Int32} {a3 : Int32} {h : fd_H} {r : Int32} (hf : fX8_keep a1 a2 a3 h = some r) : fd_S g mX8_keep 2 [.ref (g.2.2.2 + 0), .int a1, .int a2, .int a3] fd_X0 (fd_mx h hm) (some (.int r)) fd_X0 (fd_mx h hm) 0 0 := by
  refine fd_S.of (by decide +kernel) (Nat.le_of_ble_eq_true rfl) ?_
  unfold fX8_keep at hf
  refine fr_loc (lv' := [(0, .ref (g.2.2.2 + 0)), (1, .int a1), (2, .int a2), (3, .int a3)]) [0, 1, 2, 3] rfl ?_
  refine fr_aload_n (pc := 0) dX8_keep_0 0 rfl rfl ?_
  refine fr_getR (pc := 1) dX8_keep_1 fl_X8_29 (by decide) rfl rfl ?_
  refine fr_iload_n (pc := 4) dX8_keep_4 1 rfl rfl ?_
  obtain ⟨r2, hc1, hf⟩ := fd_bi hf
  refine fr_callVz (pc := 5) (av := [.int a1]) dX8_keep_5 yy_X2_has kw_108 (by decide) rfl rfl rfl rfl (Nat.le_of_ble_eq_true rfl) ⟨Nat.le_of_ble_eq_true rfl, Nat.le_of_ble_eq_true rfl, Nat.zero_le _, Nat.zero_le _⟩ (sX2_has hc1) ?_
  refine fr_bz (pc := 8) 29 dX8_keep_8 (by decide) (fun c3 => ?_) (fun c3 => ?_)
  · have hf := fd_f c3 hf
    refine fr_bipush (pc := 29) (v := (-2 : Int32)) dX8_keep_29 (by decide) ?_
    exact fr_iretP (x := (-2 : Int32)) (pc := 31) dX8_keep_31 rfl hf
  · have hf := fd_t c3 hf
    refine fr_iload_n (pc := 11) dX8_keep_11 2 rfl rfl ?_
    refine fr_bipush (pc := 12) (v := (40 : Int32)) dX8_keep_12 (by decide) ?_
    obtain ⟨r5, hc4, hf⟩ := fd_bi hf
    refine fr_callSz (pc := 14) (av := [.int a2, .int (40 : Int32)]) dX8_keep_14 yy_X8_isBelow kw_111 rfl rfl (Nat.le_of_ble_eq_true rfl) ⟨Nat.le_of_ble_eq_true rfl, Nat.le_of_ble_eq_true rfl, Nat.zero_le _, Nat.zero_le _⟩ (sX8_isBelow hc4) ?_
    refine fr_bz (pc := 17) 29 dX8_keep_17 (by decide) (fun c6 => ?_) (fun c6 => ?_)
    · have hf := fd_f c6 hf
      refine fr_bipush (pc := 29) (v := (-2 : Int32)) dX8_keep_29 (by decide) ?_
      exact fr_iretP (x := (-2 : Int32)) (pc := 31) dX8_keep_31 rfl hf
    · have hf := fd_t c6 hf
      refine fr_iload_n (pc := 20) dX8_keep_20 3 rfl rfl ?_
      refine fr_bipush (pc := 21) (v := (40 : Int32)) dX8_keep_21 (by decide) ?_
      obtain ⟨r8, hc7, hf⟩ := fd_bi hf
      refine fr_callSz (pc := 23) (av := [.int a3, .int (40 : Int32)]) dX8_keep_23 yy_X8_isChoice kw_202 rfl rfl (Nat.le_of_ble_eq_true rfl) ⟨Nat.le_of_ble_eq_true rfl, Nat.le_of_ble_eq_true rfl, Nat.zero_le _, Nat.zero_le _⟩ (sX8_isChoice hc7) ?_
      refine fr_bn (pc := 26) 32 dX8_keep_26 (by decide) (fun c9 => ?_) (fun c9 => ?_)
      · have hf := fd_t c9 hf
        refine fr_aload_n (pc := 32) dX8_keep_32 0 rfl rfl ?_
        refine fr_getR (pc := 33) dX8_keep_33 fl_X8_21 (by decide) rfl rfl ?_
        refine fr_getR (pc := 36) dX8_keep_36 fl_X8_134 (by decide) rfl rfl ?_
        refine fr_iload_n (pc := 39) dX8_keep_39 1 rfl rfl ?_
        refine fr_iload_n (pc := 40) dX8_keep_40 2 rfl rfl ?_
        obtain ⟨r11, hc10, hf⟩ := fd_bi hf
        refine fr_callVz (pc := 41) (av := [.int a1, .int a2]) dX8_keep_41 yy_X5_isBy kw_199 (by decide) rfl rfl rfl rfl (Nat.le_of_ble_eq_true rfl) ⟨Nat.le_of_ble_eq_true rfl, Nat.le_of_ble_eq_true rfl, Nat.zero_le _, Nat.zero_le _⟩ (sX5_isBy is_44 hc10) ?_
        refine fr_bz (pc := 44) 49 dX8_keep_44 (by decide) (fun c12 => ?_) (fun c12 => ?_)
        · have hf := fd_f c12 hf
          refine fr_aload_n (pc := 49) dX8_keep_49 0 rfl rfl ?_
          refine fr_getR (pc := 50) dX8_keep_50 fl_X8_21 (by decide) rfl rfl ?_
          refine fr_getR (pc := 53) dX8_keep_53 fl_X8_144 (by decide) rfl rfl ?_
          refine fr_iload_n (pc := 56) dX8_keep_56 1 rfl rfl ?_
          obtain ⟨r14, hc13, hf⟩ := fd_bi hf
          refine fr_callVl (pc := 57) (av := [.int a1]) dX8_keep_57 yy_X5_at kw_118 (by decide) rfl rfl rfl rfl (Nat.le_of_ble_eq_true rfl) ⟨Nat.le_of_ble_eq_true rfl, Nat.le_of_ble_eq_true rfl, Nat.zero_le _, Nat.zero_le _⟩ (sX5_at is_46 hc13) ?_
          refine fr_iload_n (pc := 60) dX8_keep_60 2 rfl rfl ?_
          obtain ⟨r16, hc15, hf⟩ := fd_bi hf
          refine fr_callSl (pc := 61) (av := [.int a2]) dX8_keep_61 yy_X8_bitsUpTo kw_203 rfl rfl (Nat.le_of_ble_eq_true rfl) ⟨Nat.le_of_ble_eq_true rfl, Nat.le_of_ble_eq_true rfl, Nat.zero_le _, Nat.zero_le _⟩ (sX8_bitsUpTo hc15) ?_
          refine fr_land (pc := 64) dX8_keep_64 ?_
          refine fr_iload_n (pc := 65) dX8_keep_65 3 rfl rfl ?_
          obtain ⟨r18, hc17, hf⟩ := fd_bi hf
          refine fr_callSi (pc := 66) (av := [.long (r14 &&& r16), .int a3]) dX8_keep_66 yy_X8_countOrItem kw_204 rfl rfl (Nat.le_of_ble_eq_true rfl) ⟨Nat.le_of_ble_eq_true rfl, Nat.le_of_ble_eq_true rfl, Nat.zero_le _, Nat.zero_le _⟩ (sX8_countOrItem hc17) ?_
          exact fr_iretP (x := r18) (pc := 69) dX8_keep_69 rfl hf
        · have hf := fd_t c12 hf
          refine fr_iconst (pc := 47) (v := (-1 : Int32)) dX8_keep_47 (by decide) ?_
          exact fr_iretP (x := (-1 : Int32)) (pc := 48) dX8_keep_48 rfl hf
      · have hf := fd_f c9 hf
        refine fr_bipush (pc := 29) (v := (-2 : Int32)) dX8_keep_29 (by decide) ?_
        exact fr_iretP (x := (-2 : Int32)) (pc := 31) dX8_keep_31 rfl hf
theorem dX8_seen_0 : decode cX8_seen 0 = .ok (.iload_n 1, 1) := by decide +kernel
theorem dX8_seen_1 : decode cX8_seen 1 = .ok (.bipush 40, 2) := by decide +kernel
theorem dX8_seen_3 : decode cX8_seen 3 = .ok (.invokestatic 62, 3) := by decide +kernel
theorem dX8_seen_6 : decode cX8_seen 6 = .ok (.ifCond .eq 20, 3) := by decide +kernel
theorem dX8_seen_9 : decode cX8_seen 9 = .ok (.iload_n 2, 1) := by decide +kernel
theorem dX8_seen_10 : decode cX8_seen 10 = .ok (.bipush 8, 2) := by decide +kernel
theorem dX8_seen_12 : decode cX8_seen 12 = .ok (.invokestatic 62, 3) := by decide +kernel
theorem dX8_seen_15 : decode cX8_seen 15 = .ok (.ifCond .eq 11, 3) := by decide +kernel
theorem dX8_seen_18 : decode cX8_seen 18 = .ok (.iload_n 3, 1) := by decide +kernel
theorem dX8_seen_19 : decode cX8_seen 19 = .ok (.iconst 2, 1) := by decide +kernel
theorem dX8_seen_20 : decode cX8_seen 20 = .ok (.invokestatic 62, 3) := by decide +kernel
theorem dX8_seen_23 : decode cX8_seen 23 = .ok (.ifCond .ne 6, 3) := by decide +kernel
theorem dX8_seen_26 : decode cX8_seen 26 = .ok (.bipush (-2), 2) := by decide +kernel
theorem dX8_seen_28 : decode cX8_seen 28 = .ok (.ireturn, 1) := by decide +kernel
theorem dX8_seen_29 : decode cX8_seen 29 = .ok (.aload_n 0, 1) := by decide +kernel
theorem dX8_seen_30 : decode cX8_seen 30 = .ok (.getfield 40, 3) := by decide +kernel
theorem dX8_seen_33 : decode cX8_seen 33 = .ok (.iload_n 1, 1) := by decide +kernel
theorem dX8_seen_34 : decode cX8_seen 34 = .ok (.iload_n 2, 1) := by decide +kernel
theorem dX8_seen_35 : decode cX8_seen 35 = .ok (.iload_n 3, 1) := by decide +kernel
theorem dX8_seen_36 : decode cX8_seen 36 = .ok (.invokevirtual 189, 3) := by decide +kernel
theorem dX8_seen_39 : decode cX8_seen 39 = .ok (.ifCond .eq 13, 3) := by decide +kernel
theorem dX8_seen_42 : decode cX8_seen 42 = .ok (.aload_n 0, 1) := by decide +kernel
theorem dX8_seen_43 : decode cX8_seen 43 = .ok (.getfield 40, 3) := by decide +kernel
theorem dX8_seen_46 : decode cX8_seen 46 = .ok (.getfield 130, 3) := by decide +kernel
theorem dX8_seen_49 : decode cX8_seen 49 = .ok (.goto 5, 3) := by decide +kernel
theorem dX8_seen_52 : decode cX8_seen 52 = .ok (.bipush (-4), 2) := by decide +kernel
theorem dX8_seen_54 : decode cX8_seen 54 = .ok (.ireturn, 1) := by decide +kernel
def fX8_seen (a1 : Int32) (a2 : Int32) (a3 : Int32) (h : fd_H) : Option (Int32 × fd_H) :=
(fX8_isBelow a1 (40 : Int32)).bind fun r2 =>
if r2 = true then (
(fX8_isBelow a2 (8 : Int32)).bind fun r5 =>
if r5 = true then (
(fX8_isBelow a3 (2 : Int32)).bind fun r8 =>
if r8 = true then (
(fX1_add 51 a1 a2 a3 h).bind fun q11 =>
if q11.1 = true then (
some ((q11.2.1 51 3), q11.2))
else (
some ((-4 : Int32), q11.2)))
else (
some ((-2 : Int32), h)))
else (
some ((-2 : Int32), h)))
else (
some ((-2 : Int32), h))
set_option maxRecDepth 100000 in
set_option maxHeartbeats 4000000 in
theorem sX8_seen {g : fd_G} {hm : fd_H} {a1 : Int32} {a2 : Int32} {a3 : Int32} {r : Int32 × fd_H} {h : fd_H} (hf : fX8_seen a1 a2 a3 h = some r) : fd_S g mX8_seen 2 [.ref (g.2.2.2 + 0), .int a1, .int a2, .int a3] fd_X0 (fd_mx h hm) (some (.int r.1)) fd_X0 (fd_mx r.2 hm) 0 0 := by
  refine fd_S.of (by decide +kernel) (Nat.le_of_ble_eq_true rfl) ?_
  unfold fX8_seen at hf
  refine fr_loc (lv' := [(0, .ref (g.2.2.2 + 0)), (1, .int a1), (2, .int a2), (3, .int a3)]) [0, 1, 2, 3] rfl ?_
  refine fr_iload_n (pc := 0) dX8_seen_0 1 rfl rfl ?_
  refine fr_bipush (pc := 1) (v := (40 : Int32)) dX8_seen_1 (by decide) ?_
  obtain ⟨r2, hc1, hf⟩ := fd_bi hf
  refine fr_callSz (pc := 3) (av := [.int a1, .int (40 : Int32)]) dX8_seen_3 yy_X8_isBelow kw_111 rfl rfl (Nat.le_of_ble_eq_true rfl) ⟨Nat.le_of_ble_eq_true rfl, Nat.le_of_ble_eq_true rfl, Nat.zero_le _, Nat.zero_le _⟩ (sX8_isBelow hc1) ?_
  refine fr_bz (pc := 6) 26 dX8_seen_6 (by decide) (fun c3 => ?_) (fun c3 => ?_)
  · have hf := fd_f c3 hf
    refine fr_bipush (pc := 26) (v := (-2 : Int32)) dX8_seen_26 (by decide) ?_
    exact vx_iretW (x := (-2 : Int32)) (pc := 28) dX8_seen_28 rfl hf
  · have hf := fd_t c3 hf
    refine fr_iload_n (pc := 9) dX8_seen_9 2 rfl rfl ?_
    refine fr_bipush (pc := 10) (v := (8 : Int32)) dX8_seen_10 (by decide) ?_
    obtain ⟨r5, hc4, hf⟩ := fd_bi hf
    refine fr_callSz (pc := 12) (av := [.int a2, .int (8 : Int32)]) dX8_seen_12 yy_X8_isBelow kw_111 rfl rfl (Nat.le_of_ble_eq_true rfl) ⟨Nat.le_of_ble_eq_true rfl, Nat.le_of_ble_eq_true rfl, Nat.zero_le _, Nat.zero_le _⟩ (sX8_isBelow hc4) ?_
    refine fr_bz (pc := 15) 26 dX8_seen_15 (by decide) (fun c6 => ?_) (fun c6 => ?_)
    · have hf := fd_f c6 hf
      refine fr_bipush (pc := 26) (v := (-2 : Int32)) dX8_seen_26 (by decide) ?_
      exact vx_iretW (x := (-2 : Int32)) (pc := 28) dX8_seen_28 rfl hf
    · have hf := fd_t c6 hf
      refine fr_iload_n (pc := 18) dX8_seen_18 3 rfl rfl ?_
      refine fr_iconst (pc := 19) (v := (2 : Int32)) dX8_seen_19 (by decide) ?_
      obtain ⟨r8, hc7, hf⟩ := fd_bi hf
      refine fr_callSz (pc := 20) (av := [.int a3, .int (2 : Int32)]) dX8_seen_20 yy_X8_isBelow kw_111 rfl rfl (Nat.le_of_ble_eq_true rfl) ⟨Nat.le_of_ble_eq_true rfl, Nat.le_of_ble_eq_true rfl, Nat.zero_le _, Nat.zero_le _⟩ (sX8_isBelow hc7) ?_
      refine fr_bn (pc := 23) 29 dX8_seen_23 (by decide) (fun c9 => ?_) (fun c9 => ?_)
      · have hf := fd_t c9 hf
        refine fr_aload_n (pc := 29) dX8_seen_29 0 rfl rfl ?_
        refine fr_getR (pc := 30) dX8_seen_30 fl_X8_40 (by decide) rfl rfl ?_
        refine fr_iload_n (pc := 33) dX8_seen_33 1 rfl rfl ?_
        refine fr_iload_n (pc := 34) dX8_seen_34 2 rfl rfl ?_
        refine fr_iload_n (pc := 35) dX8_seen_35 3 rfl rfl ?_
        obtain ⟨q11, hc10, hf⟩ := fd_bi hf
        refine fr_callVz (pc := 36) (av := [.int a1, .int a2, .int a3]) dX8_seen_36 yy_X1_add kw_209 (by decide) rfl rfl rfl rfl (Nat.le_of_ble_eq_true rfl) ⟨Nat.le_of_ble_eq_true rfl, Nat.le_of_ble_eq_true rfl, Nat.zero_le _, Nat.zero_le _⟩ (sX1_add is_51 hc10) ?_
        refine fr_bz (pc := 39) 52 dX8_seen_39 (by decide) (fun c12 => ?_) (fun c12 => ?_)
        · have hf := fd_f c12 hf
          refine fr_bipush (pc := 52) (v := (-4 : Int32)) dX8_seen_52 (by decide) ?_
          exact vx_iretW (x := (-4 : Int32)) (pc := 54) dX8_seen_54 rfl hf
        · have hf := fd_t c12 hf
          refine fr_aload_n (pc := 42) dX8_seen_42 0 rfl rfl ?_
          refine fr_getR (pc := 43) dX8_seen_43 fl_X8_40 (by decide) rfl rfl ?_
          refine vx_getI (pc := 46) dX8_seen_46 fl_X8_130 (by decide) (by decide) rfl rfl ?_
          refine fr_goto (pc := 49) 54 dX8_seen_49 (by decide) ?_
          exact vx_iretW (x := (q11.2.1 51 3)) (pc := 54) dX8_seen_54 rfl hf
      · have hf := fd_f c9 hf
        refine fr_bipush (pc := 26) (v := (-2 : Int32)) dX8_seen_26 (by decide) ?_
        exact vx_iretW (x := (-2 : Int32)) (pc := 28) dX8_seen_28 rfl hf
theorem dX8_sheet_0 : decode cX8_sheet 0 = .ok (.iload_n 1, 1) := by decide +kernel
theorem dX8_sheet_1 : decode cX8_sheet 1 = .ok (.iconst 4, 1) := by decide +kernel
theorem dX8_sheet_2 : decode cX8_sheet 2 = .ok (.invokestatic 62, 3) := by decide +kernel
theorem dX8_sheet_5 : decode cX8_sheet 5 = .ok (.ifCond .eq 17, 3) := by decide +kernel
theorem dX8_sheet_8 : decode cX8_sheet 8 = .ok (.iload_n 2, 1) := by decide +kernel
theorem dX8_sheet_9 : decode cX8_sheet 9 = .ok (.iconst 3, 1) := by decide +kernel
theorem dX8_sheet_10 : decode cX8_sheet 10 = .ok (.invokestatic 62, 3) := by decide +kernel
theorem dX8_sheet_13 : decode cX8_sheet 13 = .ok (.ifCond .eq 9, 3) := by decide +kernel
theorem dX8_sheet_16 : decode cX8_sheet 16 = .ok (.iload_n 3, 1) := by decide +kernel
theorem dX8_sheet_17 : decode cX8_sheet 17 = .ok (.bipush 48, 2) := by decide +kernel
theorem dX8_sheet_19 : decode cX8_sheet 19 = .ok (.if_icmp .le 6, 3) := by decide +kernel
theorem dX8_sheet_22 : decode cX8_sheet 22 = .ok (.bipush (-2), 2) := by decide +kernel
theorem dX8_sheet_24 : decode cX8_sheet 24 = .ok (.ireturn, 1) := by decide +kernel
theorem dX8_sheet_25 : decode cX8_sheet 25 = .ok (.iload_n 3, 1) := by decide +kernel
theorem dX8_sheet_26 : decode cX8_sheet 26 = .ok (.ifCond .ge 9, 3) := by decide +kernel
theorem dX8_sheet_29 : decode cX8_sheet 29 = .ok (.aload_n 0, 1) := by decide +kernel
theorem dX8_sheet_30 : decode cX8_sheet 30 = .ok (.iconst 5, 1) := by decide +kernel
theorem dX8_sheet_31 : decode cX8_sheet 31 = .ok (.invokevirtual 196, 3) := by decide +kernel
theorem dX8_sheet_34 : decode cX8_sheet 34 = .ok (.ireturn, 1) := by decide +kernel
theorem dX8_sheet_35 : decode cX8_sheet 35 = .ok (.aload_n 0, 1) := by decide +kernel
theorem dX8_sheet_36 : decode cX8_sheet 36 = .ok (.getfield 54, 3) := by decide +kernel
theorem dX8_sheet_39 : decode cX8_sheet 39 = .ok (.iload_n 1, 1) := by decide +kernel
theorem dX8_sheet_40 : decode cX8_sheet 40 = .ok (.aaload, 1) := by decide +kernel
theorem dX8_sheet_41 : decode cX8_sheet 41 = .ok (.iload_n 2, 1) := by decide +kernel
theorem dX8_sheet_42 : decode cX8_sheet 42 = .ok (.iload_n 3, 1) := by decide +kernel
theorem dX8_sheet_43 : decode cX8_sheet 43 = .ok (.invokevirtual 244, 3) := by decide +kernel
theorem dX8_sheet_46 : decode cX8_sheet 46 = .ok (.iload_n 3, 1) := by decide +kernel
theorem dX8_sheet_47 : decode cX8_sheet 47 = .ok (.ireturn, 1) := by decide +kernel
def fX8_sheet (a1 : Int32) (a2 : Int32) (a3 : Int32) (h : fd_H) : Option (Int32 × fd_H) :=
(fX8_isBelow a1 (4 : Int32)).bind fun r2 =>
if r2 = true then (
(fX8_isBelow a2 (3 : Int32)).bind fun r5 =>
if r5 = true then (
if a3 ≤ (48 : Int32) then (
if 0 ≤ a3 then (
fd_g (fd_in a1 4) (
(fX4_renew (61 + 3 * a1.toNatClampNeg) a2 a3 h).bind fun h11 =>
some (a3, h11)))
else (
(fX8_find (5 : Int32) h).bind fun q13 =>
some (q13.1, q13.2)))
else (
some ((-2 : Int32), h)))
else (
some ((-2 : Int32), h)))
else (
some ((-2 : Int32), h))
set_option maxRecDepth 100000 in
set_option maxHeartbeats 4000000 in
theorem sX8_sheet {g : fd_G} {hm : fd_H} {a1 : Int32} {a2 : Int32} {a3 : Int32} {r : Int32 × fd_H} {h : fd_H} (hf : fX8_sheet a1 a2 a3 h = some r) : fd_S g mX8_sheet 2 [.ref (g.2.2.2 + 0), .int a1, .int a2, .int a3] fd_X0 (fd_mx h hm) (some (.int r.1)) fd_X0 (fd_mx r.2 hm) 0 0 := by
  refine fd_S.of (by decide +kernel) (Nat.le_of_ble_eq_true rfl) ?_
  unfold fX8_sheet at hf
  refine fr_loc (lv' := [(0, .ref (g.2.2.2 + 0)), (1, .int a1), (2, .int a2), (3, .int a3)]) [0, 1, 2, 3] rfl ?_
  refine fr_iload_n (pc := 0) dX8_sheet_0 1 rfl rfl ?_
  refine fr_iconst (pc := 1) (v := (4 : Int32)) dX8_sheet_1 (by decide) ?_
  obtain ⟨r2, hc1, hf⟩ := fd_bi hf
  refine fr_callSz (pc := 2) (av := [.int a1, .int (4 : Int32)]) dX8_sheet_2 yy_X8_isBelow kw_111 rfl rfl (Nat.le_of_ble_eq_true rfl) ⟨Nat.le_of_ble_eq_true rfl, Nat.le_of_ble_eq_true rfl, Nat.zero_le _, Nat.zero_le _⟩ (sX8_isBelow hc1) ?_
  refine fr_bz (pc := 5) 22 dX8_sheet_5 (by decide) (fun c3 => ?_) (fun c3 => ?_)
  · have hf := fd_f c3 hf
    refine fr_bipush (pc := 22) (v := (-2 : Int32)) dX8_sheet_22 (by decide) ?_
    exact vx_iretW (x := (-2 : Int32)) (pc := 24) dX8_sheet_24 rfl hf
  · have hf := fd_t c3 hf
    refine fr_iload_n (pc := 8) dX8_sheet_8 2 rfl rfl ?_
    refine fr_iconst (pc := 9) (v := (3 : Int32)) dX8_sheet_9 (by decide) ?_
    obtain ⟨r5, hc4, hf⟩ := fd_bi hf
    refine fr_callSz (pc := 10) (av := [.int a2, .int (3 : Int32)]) dX8_sheet_10 yy_X8_isBelow kw_111 rfl rfl (Nat.le_of_ble_eq_true rfl) ⟨Nat.le_of_ble_eq_true rfl, Nat.le_of_ble_eq_true rfl, Nat.zero_le _, Nat.zero_le _⟩ (sX8_isBelow hc4) ?_
    refine fr_bz (pc := 13) 22 dX8_sheet_13 (by decide) (fun c6 => ?_) (fun c6 => ?_)
    · have hf := fd_f c6 hf
      refine fr_bipush (pc := 22) (v := (-2 : Int32)) dX8_sheet_22 (by decide) ?_
      exact vx_iretW (x := (-2 : Int32)) (pc := 24) dX8_sheet_24 rfl hf
    · have hf := fd_t c6 hf
      refine fr_iload_n (pc := 16) dX8_sheet_16 3 rfl rfl ?_
      refine fr_bipush (pc := 17) (v := (48 : Int32)) dX8_sheet_17 (by decide) ?_
      refine fr_icmp_le (pc := 19) 25 dX8_sheet_19 (by decide) (fun c7 => ?_) (fun c7 => ?_)
      · have hf := fd_t c7 hf
        refine fr_iload_n (pc := 25) dX8_sheet_25 3 rfl rfl ?_
        refine fr_if_ge (pc := 26) 35 dX8_sheet_26 (by decide) (fun c8 => ?_) (fun c8 => ?_)
        · have hf := fd_t c8 hf
          refine fr_aload_n (pc := 35) dX8_sheet_35 0 rfl rfl ?_
          refine fr_getR (pc := 36) dX8_sheet_36 fl_X8_54 (by decide) rfl rfl ?_
          refine fr_iload_n (pc := 39) dX8_sheet_39 1 rfl rfl ?_
          obtain ⟨g9, hf⟩ := fd_g_e hf
          refine fr_aaldS (pc := 40) dX8_sheet_40 (by decide) rfl g9 rfl ?_
          refine fr_iload_n (pc := 41) dX8_sheet_41 2 rfl rfl ?_
          refine fr_iload_n (pc := 42) dX8_sheet_42 3 rfl rfl ?_
          obtain ⟨h11, hc10, hf⟩ := fd_bi hf
          refine fr_callVv (pc := 43) (av := [.int a2, .int a3]) dX8_sheet_43 yy_X4_renew kw_213 (fd_isSheetA g9).b (fd_isSheetA g9).s rfl rfl rfl (Nat.le_of_ble_eq_true rfl) ⟨Nat.le_of_ble_eq_true rfl, Nat.le_of_ble_eq_true rfl, Nat.zero_le _, Nat.zero_le _⟩ (sX4_renew (fd_isSheetA g9) hc10) ?_
          refine fr_iload_n (pc := 46) dX8_sheet_46 3 rfl rfl ?_
          exact vx_iretW (x := a3) (pc := 47) dX8_sheet_47 rfl hf
        · have hf := fd_f c8 hf
          refine fr_aload_n (pc := 29) dX8_sheet_29 0 rfl rfl ?_
          refine fr_iconst (pc := 30) (v := (5 : Int32)) dX8_sheet_30 (by decide) ?_
          obtain ⟨q13, hc12, hf⟩ := fd_bi hf
          refine fr_callVi (pc := 31) (av := [.int (5 : Int32)]) dX8_sheet_31 yy_X8_find kw_129 (by decide) rfl rfl rfl rfl (Nat.le_of_ble_eq_true rfl) ⟨Nat.le_of_ble_eq_true rfl, Nat.le_of_ble_eq_true rfl, Nat.zero_le _, Nat.zero_le _⟩ (sX8_find hc12) ?_
          exact vx_iretW (x := q13.1) (pc := 34) dX8_sheet_34 rfl hf
      · have hf := fd_f c7 hf
        refine fr_bipush (pc := 22) (v := (-2 : Int32)) dX8_sheet_22 (by decide) ?_
        exact vx_iretW (x := (-2 : Int32)) (pc := 24) dX8_sheet_24 rfl hf
theorem dX8_put_0 : decode cX8_put 0 = .ok (.iload_n 1, 1) := by decide +kernel
theorem dX8_put_1 : decode cX8_put 1 = .ok (.iconst 4, 1) := by decide +kernel
theorem dX8_put_2 : decode cX8_put 2 = .ok (.invokestatic 62, 3) := by decide +kernel
theorem dX8_put_5 : decode cX8_put 5 = .ok (.ifCond .eq 11, 3) := by decide +kernel
theorem dX8_put_8 : decode cX8_put 8 = .ok (.iload_n 2, 1) := by decide +kernel
theorem dX8_put_9 : decode cX8_put 9 = .ok (.iconst 3, 1) := by decide +kernel
theorem dX8_put_10 : decode cX8_put 10 = .ok (.invokestatic 62, 3) := by decide +kernel
theorem dX8_put_13 : decode cX8_put 13 = .ok (.ifCond .ne 6, 3) := by decide +kernel
theorem dX8_put_16 : decode cX8_put 16 = .ok (.bipush (-2), 2) := by decide +kernel
theorem dX8_put_18 : decode cX8_put 18 = .ok (.ireturn, 1) := by decide +kernel
theorem dX8_put_19 : decode cX8_put 19 = .ok (.aload_n 0, 1) := by decide +kernel
theorem dX8_put_20 : decode cX8_put 20 = .ok (.getfield 54, 3) := by decide +kernel
theorem dX8_put_23 : decode cX8_put 23 = .ok (.iload_n 1, 1) := by decide +kernel
theorem dX8_put_24 : decode cX8_put 24 = .ok (.aaload, 1) := by decide +kernel
theorem dX8_put_25 : decode cX8_put 25 = .ok (.iload_n 2, 1) := by decide +kernel
theorem dX8_put_26 : decode cX8_put 26 = .ok (.iload_n 3, 1) := by decide +kernel
theorem dX8_put_27 : decode cX8_put 27 = .ok (.invokevirtual 248, 3) := by decide +kernel
theorem dX8_put_30 : decode cX8_put 30 = .ok (.istore 5, 2) := by decide +kernel
theorem dX8_put_32 : decode cX8_put 32 = .ok (.iload 5, 2) := by decide +kernel
theorem dX8_put_34 : decode cX8_put 34 = .ok (.ifCond .eq 10, 3) := by decide +kernel
theorem dX8_put_37 : decode cX8_put 37 = .ok (.aload_n 0, 1) := by decide +kernel
theorem dX8_put_38 : decode cX8_put 38 = .ok (.iload 5, 2) := by decide +kernel
theorem dX8_put_40 : decode cX8_put 40 = .ok (.invokevirtual 196, 3) := by decide +kernel
theorem dX8_put_43 : decode cX8_put 43 = .ok (.ireturn, 1) := by decide +kernel
theorem dX8_put_44 : decode cX8_put 44 = .ok (.aload_n 0, 1) := by decide +kernel
theorem dX8_put_45 : decode cX8_put 45 = .ok (.getfield 54, 3) := by decide +kernel
theorem dX8_put_48 : decode cX8_put 48 = .ok (.iload_n 1, 1) := by decide +kernel
theorem dX8_put_49 : decode cX8_put 49 = .ok (.aaload, 1) := by decide +kernel
theorem dX8_put_50 : decode cX8_put 50 = .ok (.iload_n 3, 1) := by decide +kernel
theorem dX8_put_51 : decode cX8_put 51 = .ok (.iload 4, 2) := by decide +kernel
theorem dX8_put_53 : decode cX8_put 53 = .ok (.invokevirtual 251, 3) := by decide +kernel
theorem dX8_put_56 : decode cX8_put 56 = .ok (.iconst 1, 1) := by decide +kernel
theorem dX8_put_57 : decode cX8_put 57 = .ok (.ireturn, 1) := by decide +kernel
def fX8_put (a1 : Int32) (a2 : Int32) (a3 : Int32) (a4 : Int32) (h : fd_H) : Option (Int32 × fd_H) :=
(fX8_isBelow a1 (4 : Int32)).bind fun r2 =>
if r2 = true then (
(fX8_isBelow a2 (3 : Int32)).bind fun r5 =>
if r5 = true then (
fd_g (fd_in a1 4) (
(fX4_findingAt (61 + 3 * a1.toNatClampNeg) a2 a3 h).bind fun r9 =>
if r9 = 0 then (
fd_g (fd_in a1 4) (
(fX4_store (61 + 3 * a1.toNatClampNeg) a3 a4 h).bind fun h13 =>
some ((1 : Int32), h13)))
else (
(fX8_find r9 h).bind fun q15 =>
some (q15.1, q15.2))))
else (
some ((-2 : Int32), h)))
else (
some ((-2 : Int32), h))
set_option maxRecDepth 100000 in
set_option maxHeartbeats 4000000 in
theorem sX8_put {g : fd_G} {hm : fd_H} {a1 : Int32} {a2 : Int32} {a3 : Int32} {a4 : Int32} {r : Int32 × fd_H} {h : fd_H} (hf : fX8_put a1 a2 a3 a4 h = some r) : fd_S g mX8_put 2 [.ref (g.2.2.2 + 0), .int a1, .int a2, .int a3, .int a4] fd_X0 (fd_mx h hm) (some (.int r.1)) fd_X0 (fd_mx r.2 hm) 0 0 := by
  refine fd_S.of (by decide +kernel) (Nat.le_of_ble_eq_true rfl) ?_
  unfold fX8_put at hf
  refine fr_loc (lv' := [(0, .ref (g.2.2.2 + 0)), (1, .int a1), (2, .int a2), (3, .int a3), (4, .int a4)]) [0, 1, 2, 3, 4] rfl ?_
  refine fr_iload_n (pc := 0) dX8_put_0 1 rfl rfl ?_
  refine fr_iconst (pc := 1) (v := (4 : Int32)) dX8_put_1 (by decide) ?_
  obtain ⟨r2, hc1, hf⟩ := fd_bi hf
  refine fr_callSz (pc := 2) (av := [.int a1, .int (4 : Int32)]) dX8_put_2 yy_X8_isBelow kw_111 rfl rfl (Nat.le_of_ble_eq_true rfl) ⟨Nat.le_of_ble_eq_true rfl, Nat.le_of_ble_eq_true rfl, Nat.zero_le _, Nat.zero_le _⟩ (sX8_isBelow hc1) ?_
  refine fr_bz (pc := 5) 16 dX8_put_5 (by decide) (fun c3 => ?_) (fun c3 => ?_)
  · have hf := fd_f c3 hf
    refine fr_bipush (pc := 16) (v := (-2 : Int32)) dX8_put_16 (by decide) ?_
    exact vx_iretW (x := (-2 : Int32)) (pc := 18) dX8_put_18 rfl hf
  · have hf := fd_t c3 hf
    refine fr_iload_n (pc := 8) dX8_put_8 2 rfl rfl ?_
    refine fr_iconst (pc := 9) (v := (3 : Int32)) dX8_put_9 (by decide) ?_
    obtain ⟨r5, hc4, hf⟩ := fd_bi hf
    refine fr_callSz (pc := 10) (av := [.int a2, .int (3 : Int32)]) dX8_put_10 yy_X8_isBelow kw_111 rfl rfl (Nat.le_of_ble_eq_true rfl) ⟨Nat.le_of_ble_eq_true rfl, Nat.le_of_ble_eq_true rfl, Nat.zero_le _, Nat.zero_le _⟩ (sX8_isBelow hc4) ?_
    refine fr_bn (pc := 13) 19 dX8_put_13 (by decide) (fun c6 => ?_) (fun c6 => ?_)
    · have hf := fd_t c6 hf
      refine fr_aload_n (pc := 19) dX8_put_19 0 rfl rfl ?_
      refine fr_getR (pc := 20) dX8_put_20 fl_X8_54 (by decide) rfl rfl ?_
      refine fr_iload_n (pc := 23) dX8_put_23 1 rfl rfl ?_
      obtain ⟨g7, hf⟩ := fd_g_e hf
      refine fr_aaldS (pc := 24) dX8_put_24 (by decide) rfl g7 rfl ?_
      refine fr_iload_n (pc := 25) dX8_put_25 2 rfl rfl ?_
      refine fr_iload_n (pc := 26) dX8_put_26 3 rfl rfl ?_
      obtain ⟨r9, hc8, hf⟩ := fd_bi hf
      refine fr_callVi (pc := 27) (av := [.int a2, .int a3]) dX8_put_27 yy_X4_findingAt kw_134 (fd_isSheetA g7).b (fd_isSheetA g7).s rfl rfl rfl (Nat.le_of_ble_eq_true rfl) ⟨Nat.le_of_ble_eq_true rfl, Nat.le_of_ble_eq_true rfl, Nat.zero_le _, Nat.zero_le _⟩ (sX4_findingAt (fd_isSheetA g7) hc8) ?_
      refine fr_istore (pc := 30) (lv' := [(5, .int r9), (0, .ref (g.2.2.2 + 0)), (1, .int a1), (2, .int a2), (3, .int a3), (4, .int a4)]) dX8_put_30 (by decide) rfl ?_
      refine fr_iload (pc := 32) dX8_put_32 0 rfl ?_
      refine fr_if_eq (pc := 34) 44 dX8_put_34 (by decide) (fun c10 => ?_) (fun c10 => ?_)
      · have hf := fd_t c10 hf
        refine fr_aload_n (pc := 44) dX8_put_44 1 rfl rfl ?_
        refine fr_getR (pc := 45) dX8_put_45 fl_X8_54 (by decide) rfl rfl ?_
        refine fr_iload_n (pc := 48) dX8_put_48 2 rfl rfl ?_
        obtain ⟨g11, hf⟩ := fd_g_e hf
        refine fr_aaldS (pc := 49) dX8_put_49 (by decide) rfl g11 rfl ?_
        refine fr_iload_n (pc := 50) dX8_put_50 4 rfl rfl ?_
        refine fr_iload (pc := 51) dX8_put_51 5 rfl ?_
        obtain ⟨h13, hc12, hf⟩ := fd_bi hf
        refine fr_callVv (pc := 53) (av := [.int a3, .int a4]) dX8_put_53 yy_X4_store kw_217 (fd_isSheetA g11).b (fd_isSheetA g11).s rfl rfl rfl (Nat.le_of_ble_eq_true rfl) ⟨Nat.le_of_ble_eq_true rfl, Nat.le_of_ble_eq_true rfl, Nat.zero_le _, Nat.zero_le _⟩ (sX4_store (fd_isSheetA g11) hc12) ?_
        refine fr_iconst (pc := 56) (v := (1 : Int32)) dX8_put_56 (by decide) ?_
        exact vx_iretW (x := (1 : Int32)) (pc := 57) dX8_put_57 rfl hf
      · have hf := fd_f c10 hf
        refine fr_aload_n (pc := 37) dX8_put_37 1 rfl rfl ?_
        refine fr_iload (pc := 38) dX8_put_38 0 rfl ?_
        obtain ⟨q15, hc14, hf⟩ := fd_bi hf
        refine fr_callVi (pc := 40) (av := [.int r9]) dX8_put_40 yy_X8_find kw_129 (by decide) rfl rfl rfl rfl (Nat.le_of_ble_eq_true rfl) ⟨Nat.le_of_ble_eq_true rfl, Nat.le_of_ble_eq_true rfl, Nat.zero_le _, Nat.zero_le _⟩ (sX8_find hc14) ?_
        exact vx_iretW (x := q15.1) (pc := 43) dX8_put_43 rfl hf
    · have hf := fd_f c6 hf
      refine fr_bipush (pc := 16) (v := (-2 : Int32)) dX8_put_16 (by decide) ?_
      exact vx_iretW (x := (-2 : Int32)) (pc := 18) dX8_put_18 rfl hf
theorem dX8_copy_0 : decode cX8_copy 0 = .ok (.iload_n 1, 1) := by decide +kernel
theorem dX8_copy_1 : decode cX8_copy 1 = .ok (.iconst 4, 1) := by decide +kernel
theorem dX8_copy_2 : decode cX8_copy 2 = .ok (.invokestatic 62, 3) := by decide +kernel
theorem dX8_copy_5 : decode cX8_copy 5 = .ok (.ifCond .eq 11, 3) := by decide +kernel
theorem dX8_copy_8 : decode cX8_copy 8 = .ok (.iload_n 3, 1) := by decide +kernel
theorem dX8_copy_9 : decode cX8_copy 9 = .ok (.iconst 4, 1) := by decide +kernel
theorem dX8_copy_10 : decode cX8_copy 10 = .ok (.invokestatic 62, 3) := by decide +kernel
theorem dX8_copy_13 : decode cX8_copy 13 = .ok (.ifCond .ne 6, 3) := by decide +kernel
theorem dX8_copy_16 : decode cX8_copy 16 = .ok (.bipush (-2), 2) := by decide +kernel
theorem dX8_copy_18 : decode cX8_copy 18 = .ok (.ireturn, 1) := by decide +kernel
theorem dX8_copy_19 : decode cX8_copy 19 = .ok (.aload_n 0, 1) := by decide +kernel
theorem dX8_copy_20 : decode cX8_copy 20 = .ok (.getfield 54, 3) := by decide +kernel
theorem dX8_copy_23 : decode cX8_copy 23 = .ok (.iload_n 1, 1) := by decide +kernel
theorem dX8_copy_24 : decode cX8_copy 24 = .ok (.aaload, 1) := by decide +kernel
theorem dX8_copy_25 : decode cX8_copy 25 = .ok (.astore 6, 2) := by decide +kernel
theorem dX8_copy_27 : decode cX8_copy 27 = .ok (.aload_n 0, 1) := by decide +kernel
theorem dX8_copy_28 : decode cX8_copy 28 = .ok (.getfield 54, 3) := by decide +kernel
theorem dX8_copy_31 : decode cX8_copy 31 = .ok (.iload_n 3, 1) := by decide +kernel
theorem dX8_copy_32 : decode cX8_copy 32 = .ok (.aaload, 1) := by decide +kernel
theorem dX8_copy_33 : decode cX8_copy 33 = .ok (.astore 7, 2) := by decide +kernel
theorem dX8_copy_35 : decode cX8_copy 35 = .ok (.aload 6, 2) := by decide +kernel
theorem dX8_copy_37 : decode cX8_copy 37 = .ok (.getfield 192, 3) := by decide +kernel
theorem dX8_copy_40 : decode cX8_copy 40 = .ok (.ifCond .ne 11, 3) := by decide +kernel
theorem dX8_copy_43 : decode cX8_copy 43 = .ok (.aload 7, 2) := by decide +kernel
theorem dX8_copy_45 : decode cX8_copy 45 = .ok (.getfield 192, 3) := by decide +kernel
theorem dX8_copy_48 : decode cX8_copy 48 = .ok (.ifCond .eq 9, 3) := by decide +kernel
theorem dX8_copy_51 : decode cX8_copy 51 = .ok (.aload_n 0, 1) := by decide +kernel
theorem dX8_copy_52 : decode cX8_copy 52 = .ok (.iconst 1, 1) := by decide +kernel
theorem dX8_copy_53 : decode cX8_copy 53 = .ok (.invokevirtual 196, 3) := by decide +kernel
theorem dX8_copy_56 : decode cX8_copy 56 = .ok (.ireturn, 1) := by decide +kernel
theorem dX8_copy_57 : decode cX8_copy 57 = .ok (.aload 6, 2) := by decide +kernel
theorem dX8_copy_59 : decode cX8_copy 59 = .ok (.getfield 255, 3) := by decide +kernel
theorem dX8_copy_62 : decode cX8_copy 62 = .ok (.aload 7, 2) := by decide +kernel
theorem dX8_copy_64 : decode cX8_copy 64 = .ok (.getfield 255, 3) := by decide +kernel
theorem dX8_copy_67 : decode cX8_copy 67 = .ok (.if_icmp .eq 9, 3) := by decide +kernel
theorem dX8_copy_70 : decode cX8_copy 70 = .ok (.aload_n 0, 1) := by decide +kernel
theorem dX8_copy_71 : decode cX8_copy 71 = .ok (.iconst 4, 1) := by decide +kernel
theorem dX8_copy_72 : decode cX8_copy 72 = .ok (.invokevirtual 196, 3) := by decide +kernel
theorem dX8_copy_75 : decode cX8_copy 75 = .ok (.ireturn, 1) := by decide +kernel
theorem dX8_copy_76 : decode cX8_copy 76 = .ok (.aload 6, 2) := by decide +kernel
theorem dX8_copy_78 : decode cX8_copy 78 = .ok (.iload_n 2, 1) := by decide +kernel
theorem dX8_copy_79 : decode cX8_copy 79 = .ok (.iload 5, 2) := by decide +kernel
theorem dX8_copy_81 : decode cX8_copy 81 = .ok (.invokevirtual 258, 3) := by decide +kernel
theorem dX8_copy_84 : decode cX8_copy 84 = .ok (.ifCond .eq 15, 3) := by decide +kernel
theorem dX8_copy_87 : decode cX8_copy 87 = .ok (.aload 7, 2) := by decide +kernel
theorem dX8_copy_89 : decode cX8_copy 89 = .ok (.iload 4, 2) := by decide +kernel
theorem dX8_copy_91 : decode cX8_copy 91 = .ok (.iload 5, 2) := by decide +kernel
theorem dX8_copy_93 : decode cX8_copy 93 = .ok (.invokevirtual 258, 3) := by decide +kernel
theorem dX8_copy_96 : decode cX8_copy 96 = .ok (.ifCond .ne 9, 3) := by decide +kernel
theorem dX8_copy_99 : decode cX8_copy 99 = .ok (.aload_n 0, 1) := by decide +kernel
theorem dX8_copy_100 : decode cX8_copy 100 = .ok (.iconst 2, 1) := by decide +kernel
theorem dX8_copy_101 : decode cX8_copy 101 = .ok (.invokevirtual 196, 3) := by decide +kernel
theorem dX8_copy_104 : decode cX8_copy 104 = .ok (.ireturn, 1) := by decide +kernel
theorem dX8_copy_105 : decode cX8_copy 105 = .ok (.aload 7, 2) := by decide +kernel
theorem dX8_copy_107 : decode cX8_copy 107 = .ok (.aload 6, 2) := by decide +kernel
theorem dX8_copy_109 : decode cX8_copy 109 = .ok (.iload_n 2, 1) := by decide +kernel
theorem dX8_copy_110 : decode cX8_copy 110 = .ok (.iload 4, 2) := by decide +kernel
theorem dX8_copy_112 : decode cX8_copy 112 = .ok (.iload 5, 2) := by decide +kernel
theorem dX8_copy_114 : decode cX8_copy 114 = .ok (.invokevirtual 261, 3) := by decide +kernel
theorem dX8_copy_117 : decode cX8_copy 117 = .ok (.iconst 1, 1) := by decide +kernel
theorem dX8_copy_118 : decode cX8_copy 118 = .ok (.ireturn, 1) := by decide +kernel
def fX8_copy_L51 (a1 : Int32) (a2 : Int32) (a3 : Int32) (a4 : Int32) (a5 : Int32) (h : fd_H) : Option (Int32 × fd_H) :=
(fX8_find (1 : Int32) h).bind fun q2 =>
some (q2.1, q2.2)
set_option maxRecDepth 100000 in
set_option maxHeartbeats 4000000 in
theorem sX8_copy_L51 {g : fd_G} {hm : fd_H} {a1 : Int32} {a2 : Int32} {a3 : Int32} {a4 : Int32} {a5 : Int32} {r : Int32 × fd_H} : ∀ (h : fd_H), fX8_copy_L51 a1 a2 a3 a4 a5 h = some r → fd_A g mX8_copy fd_E (fd_rm 2 0 0) (fd_Q g (some (.int r.1)) fd_X0 (fd_mx r.2 hm) 0 0) 51 [(0, .ref (g.2.2.2 + 0))] [] fd_X0 (fd_mx h hm) 0 0 := by
  intro h hf
  unfold fX8_copy_L51 at hf
  refine fr_aload_n (pc := 51) dX8_copy_51 0 rfl rfl ?_
  refine fr_iconst (pc := 52) (v := (1 : Int32)) dX8_copy_52 (by decide) ?_
  obtain ⟨q2, hc1, hf⟩ := fd_bi hf
  refine fr_callVi (pc := 53) (av := [.int (1 : Int32)]) dX8_copy_53 yy_X8_find kw_129 (by decide) rfl rfl rfl rfl (Nat.le_of_ble_eq_true rfl) ⟨Nat.le_of_ble_eq_true rfl, Nat.le_of_ble_eq_true rfl, Nat.zero_le _, Nat.zero_le _⟩ (sX8_find hc1) ?_
  exact vx_iretW (x := q2.1) (pc := 56) dX8_copy_56 rfl hf
def fX8_copy_L99 (a1 : Int32) (a2 : Int32) (a3 : Int32) (a4 : Int32) (a5 : Int32) (h : fd_H) : Option (Int32 × fd_H) :=
(fX8_find (2 : Int32) h).bind fun q2 =>
some (q2.1, q2.2)
set_option maxRecDepth 100000 in
set_option maxHeartbeats 4000000 in
theorem sX8_copy_L99 {g : fd_G} {hm : fd_H} {a1 : Int32} {a2 : Int32} {a3 : Int32} {a4 : Int32} {a5 : Int32} {r : Int32 × fd_H} : ∀ (h : fd_H), fX8_copy_L99 a1 a2 a3 a4 a5 h = some r → fd_A g mX8_copy fd_E (fd_rm 2 0 0) (fd_Q g (some (.int r.1)) fd_X0 (fd_mx r.2 hm) 0 0) 99 [(0, .ref (g.2.2.2 + 0))] [] fd_X0 (fd_mx h hm) 0 0 := by
  intro h hf
  unfold fX8_copy_L99 at hf
  refine fr_aload_n (pc := 99) dX8_copy_99 0 rfl rfl ?_
  refine fr_iconst (pc := 100) (v := (2 : Int32)) dX8_copy_100 (by decide) ?_
  obtain ⟨q2, hc1, hf⟩ := fd_bi hf
  refine fr_callVi (pc := 101) (av := [.int (2 : Int32)]) dX8_copy_101 yy_X8_find kw_129 (by decide) rfl rfl rfl rfl (Nat.le_of_ble_eq_true rfl) ⟨Nat.le_of_ble_eq_true rfl, Nat.le_of_ble_eq_true rfl, Nat.zero_le _, Nat.zero_le _⟩ (sX8_find hc1) ?_
  exact vx_iretW (x := q2.1) (pc := 104) dX8_copy_104 rfl hf
def fX8_copy (a1 : Int32) (a2 : Int32) (a3 : Int32) (a4 : Int32) (a5 : Int32) (h : fd_H) : Option (Int32 × fd_H) :=
(fX8_isBelow a1 (4 : Int32)).bind fun r2 =>
if r2 = true then (
(fX8_isBelow a3 (4 : Int32)).bind fun r5 =>
if r5 = true then (
fd_g (fd_in a1 4) (
fd_g (fd_in a3 4) (
if (h.1 (61 + 3 * a1.toNatClampNeg) 1) = 0 then (
if (h.1 (61 + 3 * a3.toNatClampNeg) 1) = 0 then (
if (h.1 (61 + 3 * a1.toNatClampNeg) 2) = (h.1 (61 + 3 * a3.toNatClampNeg) 2) then (
(fX4_hasRange (61 + 3 * a1.toNatClampNeg) a2 a5 h).bind fun r13 =>
if r13 = true then (
(fX4_hasRange (61 + 3 * a3.toNatClampNeg) a4 a5 h).bind fun r16 =>
if r16 = true then (
(fX4_take (61 + 3 * a3.toNatClampNeg) (61 + 3 * a1.toNatClampNeg) a2 a4 a5 h).bind fun h19 =>
some ((1 : Int32), h19))
else (
fX8_copy_L99 a1 a2 a3 a4 a5 h))
else (
fX8_copy_L99 a1 a2 a3 a4 a5 h))
else (
(fX8_find (4 : Int32) h).bind fun q21 =>
some (q21.1, q21.2)))
else (
fX8_copy_L51 a1 a2 a3 a4 a5 h))
else (
fX8_copy_L51 a1 a2 a3 a4 a5 h))))
else (
some ((-2 : Int32), h)))
else (
some ((-2 : Int32), h))
set_option maxRecDepth 100000 in
set_option maxHeartbeats 4000000 in
theorem sX8_copy {g : fd_G} {hm : fd_H} {a1 : Int32} {a2 : Int32} {a3 : Int32} {a4 : Int32} {a5 : Int32} {r : Int32 × fd_H} {h : fd_H} (hf : fX8_copy a1 a2 a3 a4 a5 h = some r) : fd_S g mX8_copy 2 [.ref (g.2.2.2 + 0), .int a1, .int a2, .int a3, .int a4, .int a5] fd_X0 (fd_mx h hm) (some (.int r.1)) fd_X0 (fd_mx r.2 hm) 0 0 := by
  refine fd_S.of (by decide +kernel) (Nat.le_of_ble_eq_true rfl) ?_
  unfold fX8_copy at hf
  refine fr_loc (lv' := [(0, .ref (g.2.2.2 + 0)), (1, .int a1), (2, .int a2), (3, .int a3), (4, .int a4), (5, .int a5)]) [0, 1, 2, 3, 4, 5] rfl ?_
  refine fr_iload_n (pc := 0) dX8_copy_0 1 rfl rfl ?_
  refine fr_iconst (pc := 1) (v := (4 : Int32)) dX8_copy_1 (by decide) ?_
  obtain ⟨r2, hc1, hf⟩ := fd_bi hf
  refine fr_callSz (pc := 2) (av := [.int a1, .int (4 : Int32)]) dX8_copy_2 yy_X8_isBelow kw_111 rfl rfl (Nat.le_of_ble_eq_true rfl) ⟨Nat.le_of_ble_eq_true rfl, Nat.le_of_ble_eq_true rfl, Nat.zero_le _, Nat.zero_le _⟩ (sX8_isBelow hc1) ?_
  refine fr_bz (pc := 5) 16 dX8_copy_5 (by decide) (fun c3 => ?_) (fun c3 => ?_)
  · have hf := fd_f c3 hf
    refine fr_bipush (pc := 16) (v := (-2 : Int32)) dX8_copy_16 (by decide) ?_
    exact vx_iretW (x := (-2 : Int32)) (pc := 18) dX8_copy_18 rfl hf
  · have hf := fd_t c3 hf
    refine fr_iload_n (pc := 8) dX8_copy_8 3 rfl rfl ?_
    refine fr_iconst (pc := 9) (v := (4 : Int32)) dX8_copy_9 (by decide) ?_
    obtain ⟨r5, hc4, hf⟩ := fd_bi hf
    refine fr_callSz (pc := 10) (av := [.int a3, .int (4 : Int32)]) dX8_copy_10 yy_X8_isBelow kw_111 rfl rfl (Nat.le_of_ble_eq_true rfl) ⟨Nat.le_of_ble_eq_true rfl, Nat.le_of_ble_eq_true rfl, Nat.zero_le _, Nat.zero_le _⟩ (sX8_isBelow hc4) ?_
    refine fr_bn (pc := 13) 19 dX8_copy_13 (by decide) (fun c6 => ?_) (fun c6 => ?_)
    · have hf := fd_t c6 hf
      refine fr_aload_n (pc := 19) dX8_copy_19 0 rfl rfl ?_
      refine fr_getR (pc := 20) dX8_copy_20 fl_X8_54 (by decide) rfl rfl ?_
      refine fr_iload_n (pc := 23) dX8_copy_23 1 rfl rfl ?_
      obtain ⟨g7, hf⟩ := fd_g_e hf
      refine fr_aaldS (pc := 24) dX8_copy_24 (by decide) rfl g7 rfl ?_
      refine fr_astore (pc := 25) (lv' := [(6, .ref (g.2.2.2 + (61 + 3 * a1.toNatClampNeg))), (0, .ref (g.2.2.2 + 0)), (1, .int a1), (2, .int a2), (3, .int a3), (4, .int a4), (5, .int a5)]) dX8_copy_25 (by decide) rfl ?_
      refine fr_aload_n (pc := 27) dX8_copy_27 1 rfl rfl ?_
      refine fr_getR (pc := 28) dX8_copy_28 fl_X8_54 (by decide) rfl rfl ?_
      refine fr_iload_n (pc := 31) dX8_copy_31 4 rfl rfl ?_
      obtain ⟨g8, hf⟩ := fd_g_e hf
      refine fr_aaldS (pc := 32) dX8_copy_32 (by decide) rfl g8 rfl ?_
      refine fr_astore (pc := 33) (lv' := [(7, .ref (g.2.2.2 + (61 + 3 * a3.toNatClampNeg))), (6, .ref (g.2.2.2 + (61 + 3 * a1.toNatClampNeg))), (0, .ref (g.2.2.2 + 0)), (1, .int a1), (2, .int a2), (3, .int a3), (4, .int a4), (5, .int a5)]) dX8_copy_33 (by decide) rfl ?_
      refine fr_aload (pc := 35) dX8_copy_35 1 rfl ?_
      refine vx_getI (pc := 37) dX8_copy_37 fl_X8_192 (fd_isSheetA g7).b (fd_isSheetA g7).x (fd_isSheetA g7).s rfl ?_
      refine fr_if_ne (pc := 40) 51 dX8_copy_40 (by decide) (fun c9 => ?_) (fun c9 => ?_)
      · have hf := fd_f c9 hf
        refine fr_loc (lv' := [(0, .ref (g.2.2.2 + 0))]) [2] rfl ?_
        exact sX8_copy_L51  _ hf
      · have hf := fd_t c9 hf
        refine fr_aload (pc := 43) dX8_copy_43 0 rfl ?_
        refine vx_getI (pc := 45) dX8_copy_45 fl_X8_192 (fd_isSheetA g8).b (fd_isSheetA g8).x (fd_isSheetA g8).s rfl ?_
        refine fr_if_eq (pc := 48) 57 dX8_copy_48 (by decide) (fun c10 => ?_) (fun c10 => ?_)
        · have hf := fd_t c10 hf
          refine fr_aload (pc := 57) dX8_copy_57 1 rfl ?_
          refine vx_getI (pc := 59) dX8_copy_59 fl_X8_255 (fd_isSheetA g7).b (fd_isSheetA g7).x (fd_isSheetA g7).s rfl ?_
          refine fr_aload (pc := 62) dX8_copy_62 0 rfl ?_
          refine vx_getI (pc := 64) dX8_copy_64 fl_X8_255 (fd_isSheetA g8).b (fd_isSheetA g8).x (fd_isSheetA g8).s rfl ?_
          refine fr_icmp_eq (pc := 67) 76 dX8_copy_67 (by decide) (fun c11 => ?_) (fun c11 => ?_)
          · have hf := fd_t c11 hf
            refine fr_aload (pc := 76) dX8_copy_76 1 rfl ?_
            refine fr_iload_n (pc := 78) dX8_copy_78 4 rfl rfl ?_
            refine fr_iload (pc := 79) dX8_copy_79 7 rfl ?_
            obtain ⟨r13, hc12, hf⟩ := fd_bi hf
            refine fr_callVz (pc := 81) (av := [.int a2, .int a5]) dX8_copy_81 yy_X4_hasRange kw_222 (fd_isSheetA g7).b (fd_isSheetA g7).s rfl rfl rfl (Nat.le_of_ble_eq_true rfl) ⟨Nat.le_of_ble_eq_true rfl, Nat.le_of_ble_eq_true rfl, Nat.zero_le _, Nat.zero_le _⟩ (sX4_hasRange (fd_isSheetA g7) hc12) ?_
            refine fr_bz (pc := 84) 99 dX8_copy_84 (by decide) (fun c14 => ?_) (fun c14 => ?_)
            · have hf := fd_f c14 hf
              refine fr_loc (lv' := [(0, .ref (g.2.2.2 + 0))]) [2] rfl ?_
              exact sX8_copy_L99  _ hf
            · have hf := fd_t c14 hf
              refine fr_aload (pc := 87) dX8_copy_87 0 rfl ?_
              refine fr_iload (pc := 89) dX8_copy_89 6 rfl ?_
              refine fr_iload (pc := 91) dX8_copy_91 7 rfl ?_
              obtain ⟨r16, hc15, hf⟩ := fd_bi hf
              refine fr_callVz (pc := 93) (av := [.int a4, .int a5]) dX8_copy_93 yy_X4_hasRange kw_222 (fd_isSheetA g8).b (fd_isSheetA g8).s rfl rfl rfl (Nat.le_of_ble_eq_true rfl) ⟨Nat.le_of_ble_eq_true rfl, Nat.le_of_ble_eq_true rfl, Nat.zero_le _, Nat.zero_le _⟩ (sX4_hasRange (fd_isSheetA g8) hc15) ?_
              refine fr_bn (pc := 96) 105 dX8_copy_96 (by decide) (fun c17 => ?_) (fun c17 => ?_)
              · have hf := fd_t c17 hf
                refine fr_aload (pc := 105) dX8_copy_105 0 rfl ?_
                refine fr_aload (pc := 107) dX8_copy_107 1 rfl ?_
                refine fr_iload_n (pc := 109) dX8_copy_109 4 rfl rfl ?_
                refine fr_iload (pc := 110) dX8_copy_110 6 rfl ?_
                refine fr_iload (pc := 112) dX8_copy_112 7 rfl ?_
                obtain ⟨h19, hc18, hf⟩ := fd_bi hf
                refine fr_callVv (pc := 114) (av := [.ref (g.2.2.2 + (61 + 3 * a1.toNatClampNeg)), .int a2, .int a4, .int a5]) dX8_copy_114 yy_X4_take kw_226 (fd_isSheetA g8).b (fd_isSheetA g8).s rfl rfl rfl (Nat.le_of_ble_eq_true rfl) ⟨Nat.le_of_ble_eq_true rfl, Nat.le_of_ble_eq_true rfl, Nat.zero_le _, Nat.zero_le _⟩ (sX4_take (fd_isSheetA g8) (fd_isSheetA g7) hc18) ?_
                refine fr_iconst (pc := 117) (v := (1 : Int32)) dX8_copy_117 (by decide) ?_
                exact vx_iretW (x := (1 : Int32)) (pc := 118) dX8_copy_118 rfl hf
              · have hf := fd_f c17 hf
                refine fr_loc (lv' := [(0, .ref (g.2.2.2 + 0))]) [2] rfl ?_
                exact sX8_copy_L99  _ hf
          · have hf := fd_f c11 hf
            refine fr_aload_n (pc := 70) dX8_copy_70 2 rfl rfl ?_
            refine fr_iconst (pc := 71) (v := (4 : Int32)) dX8_copy_71 (by decide) ?_
            obtain ⟨q21, hc20, hf⟩ := fd_bi hf
            refine fr_callVi (pc := 72) (av := [.int (4 : Int32)]) dX8_copy_72 yy_X8_find kw_129 (by decide) rfl rfl rfl rfl (Nat.le_of_ble_eq_true rfl) ⟨Nat.le_of_ble_eq_true rfl, Nat.le_of_ble_eq_true rfl, Nat.zero_le _, Nat.zero_le _⟩ (sX8_find hc20) ?_
            exact vx_iretW (x := q21.1) (pc := 75) dX8_copy_75 rfl hf
        · have hf := fd_f c10 hf
          refine fr_loc (lv' := [(0, .ref (g.2.2.2 + 0))]) [2] rfl ?_
          exact sX8_copy_L51  _ hf
    · have hf := fd_f c6 hf
      refine fr_bipush (pc := 16) (v := (-2 : Int32)) dX8_copy_16 (by decide) ?_
      exact vx_iretW (x := (-2 : Int32)) (pc := 18) dX8_copy_18 rfl hf
theorem dX8_fits_0 : decode cX8_fits 0 = .ok (.aload_n 1, 1) := by decide +kernel
theorem dX8_fits_1 : decode cX8_fits 1 = .ok (.getfield 316, 3) := by decide +kernel
theorem dX8_fits_4 : decode cX8_fits 4 = .ok (.iload_n 2, 1) := by decide +kernel
theorem dX8_fits_5 : decode cX8_fits 5 = .ok (.invokevirtual 89, 3) := by decide +kernel
theorem dX8_fits_8 : decode cX8_fits 8 = .ok (.istore_n 3, 1) := by decide +kernel
theorem dX8_fits_9 : decode cX8_fits 9 = .ok (.iload_n 0, 1) := by decide +kernel
theorem dX8_fits_10 : decode cX8_fits 10 = .ok (.ifCond .ne 11, 3) := by decide +kernel
theorem dX8_fits_13 : decode cX8_fits 13 = .ok (.iload_n 2, 1) := by decide +kernel
theorem dX8_fits_14 : decode cX8_fits 14 = .ok (.iconst 3, 1) := by decide +kernel
theorem dX8_fits_15 : decode cX8_fits 15 = .ok (.irem, 1) := by decide +kernel
theorem dX8_fits_16 : decode cX8_fits 16 = .ok (.iload_n 3, 1) := by decide +kernel
theorem dX8_fits_17 : decode cX8_fits 17 = .ok (.invokestatic 319, 3) := by decide +kernel
theorem dX8_fits_20 : decode cX8_fits 20 = .ok (.ireturn, 1) := by decide +kernel
theorem dX8_fits_21 : decode cX8_fits 21 = .ok (.iload_n 0, 1) := by decide +kernel
theorem dX8_fits_22 : decode cX8_fits 22 = .ok (.iconst 1, 1) := by decide +kernel
theorem dX8_fits_23 : decode cX8_fits 23 = .ok (.if_icmp .ne 21, 3) := by decide +kernel
theorem dX8_fits_26 : decode cX8_fits 26 = .ok (.iload_n 3, 1) := by decide +kernel
theorem dX8_fits_27 : decode cX8_fits 27 = .ok (.bipush 97, 2) := by decide +kernel
theorem dX8_fits_29 : decode cX8_fits 29 = .ok (.if_icmp .lt 13, 3) := by decide +kernel
theorem dX8_fits_32 : decode cX8_fits 32 = .ok (.iload_n 3, 1) := by decide +kernel
theorem dX8_fits_33 : decode cX8_fits 33 = .ok (.bipush 122, 2) := by decide +kernel
theorem dX8_fits_35 : decode cX8_fits 35 = .ok (.if_icmp .gt 7, 3) := by decide +kernel
theorem dX8_fits_38 : decode cX8_fits 38 = .ok (.iconst 1, 1) := by decide +kernel
theorem dX8_fits_39 : decode cX8_fits 39 = .ok (.goto 4, 3) := by decide +kernel
theorem dX8_fits_42 : decode cX8_fits 42 = .ok (.iconst 0, 1) := by decide +kernel
theorem dX8_fits_43 : decode cX8_fits 43 = .ok (.ireturn, 1) := by decide +kernel
theorem dX8_fits_44 : decode cX8_fits 44 = .ok (.iload_n 2, 1) := by decide +kernel
theorem dX8_fits_45 : decode cX8_fits 45 = .ok (.bipush 8, 2) := by decide +kernel
theorem dX8_fits_47 : decode cX8_fits 47 = .ok (.irem, 1) := by decide +kernel
theorem dX8_fits_48 : decode cX8_fits 48 = .ok (.iload_n 3, 1) := by decide +kernel
theorem dX8_fits_49 : decode cX8_fits 49 = .ok (.aload_n 1, 1) := by decide +kernel
theorem dX8_fits_50 : decode cX8_fits 50 = .ok (.getfield 316, 3) := by decide +kernel
theorem dX8_fits_53 : decode cX8_fits 53 = .ok (.iload_n 2, 1) := by decide +kernel
theorem dX8_fits_54 : decode cX8_fits 54 = .ok (.iconst 1, 1) := by decide +kernel
theorem dX8_fits_55 : decode cX8_fits 55 = .ok (.isub, 1) := by decide +kernel
theorem dX8_fits_56 : decode cX8_fits 56 = .ok (.invokevirtual 89, 3) := by decide +kernel
theorem dX8_fits_59 : decode cX8_fits 59 = .ok (.invokestatic 322, 3) := by decide +kernel
theorem dX8_fits_62 : decode cX8_fits 62 = .ok (.ireturn, 1) := by decide +kernel
def fX8_fits (a0 : Int32) (k1 : Nat) (n1 : Nat) (a2 : Int32) (h : fd_H) : Option (Bool) :=
(fX3_at (k1 + 1) n1 a2 h).bind fun r2 =>
if a0 = 0 then (
(fX8_fitsPlace (fd_irem a2 (3 : Int32)) r2).bind fun r12 =>
some (r12))
else (
if a0 = (1 : Int32) then (
if r2 < (97 : Int32) then (
some (false))
else (
if (122 : Int32) < r2 then (
some (false))
else (
some (true))))
else (
(fX3_at (k1 + 1) n1 (a2 - (1 : Int32)) h).bind fun r6 =>
(fX8_fitsDebt (fd_irem a2 (8 : Int32)) r2 r6).bind fun r8 =>
some (r8)))
set_option maxRecDepth 100000 in
set_option maxHeartbeats 4000000 in
theorem sX8_fits {g : fd_G} {hm : fd_H} {a0 : Int32} {k1 : Nat} {n1 : Nat} {a2 : Int32} {h : fd_H} {r : Bool} (p1 : fd_isText k1 n1) (hf : fX8_fits a0 k1 n1 a2 h = some r) : fd_S g mX8_fits 2 [.int a0, .ref (g.2.2.2 + k1), .int a2] fd_X0 (fd_mx h hm) (some (.int (fd_b r))) fd_X0 (fd_mx h hm) 0 0 := by
  refine fd_S.of (by decide +kernel) (Nat.le_of_ble_eq_true rfl) ?_
  unfold fX8_fits at hf
  refine fr_loc (lv' := [(0, .int a0), (1, .ref (g.2.2.2 + k1)), (2, .int a2)]) [0, 1, 2] rfl ?_
  refine fr_aload_n (pc := 0) dX8_fits_0 1 rfl rfl ?_
  refine fr_getR (pc := 1) dX8_fits_1 fl_X8_316 p1.b p1.s rfl ?_
  refine fr_iload_n (pc := 4) dX8_fits_4 2 rfl rfl ?_
  obtain ⟨r2, hc1, hf⟩ := fd_bi hf
  refine fr_callVi (pc := 5) (av := [.int a2]) dX8_fits_5 yy_X3_at kw_113 p1.row.b p1.row.s rfl rfl rfl (Nat.le_of_ble_eq_true rfl) ⟨Nat.le_of_ble_eq_true rfl, Nat.le_of_ble_eq_true rfl, Nat.zero_le _, Nat.zero_le _⟩ (sX3_at p1.row hc1) ?_
  refine fr_istore_n (pc := 8) (lv' := [(3, .int r2), (0, .int a0), (1, .ref (g.2.2.2 + k1)), (2, .int a2)]) dX8_fits_8 rfl (by decide) rfl ?_
  refine fr_iload_n (pc := 9) dX8_fits_9 1 rfl rfl ?_
  refine fr_if_ne (pc := 10) 21 dX8_fits_10 (by decide) (fun c3 => ?_) (fun c3 => ?_)
  · have hf := fd_f c3 hf
    refine fr_iload_n (pc := 21) dX8_fits_21 1 rfl rfl ?_
    refine fr_iconst (pc := 22) (v := (1 : Int32)) dX8_fits_22 (by decide) ?_
    refine fr_icmp_ne (pc := 23) 44 dX8_fits_23 (by decide) (fun c4 => ?_) (fun c4 => ?_)
    · have hf := fd_f c4 hf
      refine fr_iload_n (pc := 44) dX8_fits_44 3 rfl rfl ?_
      refine fr_bipush (pc := 45) (v := (8 : Int32)) dX8_fits_45 (by decide) ?_
      refine fr_irem (pc := 47) dX8_fits_47 (by decide) ?_
      refine fr_iload_n (pc := 48) dX8_fits_48 0 rfl rfl ?_
      refine fr_aload_n (pc := 49) dX8_fits_49 2 rfl rfl ?_
      refine fr_getR (pc := 50) dX8_fits_50 fl_X8_316 p1.b p1.s rfl ?_
      refine fr_iload_n (pc := 53) dX8_fits_53 3 rfl rfl ?_
      refine fr_iconst (pc := 54) (v := (1 : Int32)) dX8_fits_54 (by decide) ?_
      refine fr_isub (pc := 55) dX8_fits_55 ?_
      obtain ⟨r6, hc5, hf⟩ := fd_bi hf
      refine fr_callVi (pc := 56) (av := [.int (a2 - (1 : Int32))]) dX8_fits_56 yy_X3_at kw_113 p1.row.b p1.row.s rfl rfl rfl (Nat.le_of_ble_eq_true rfl) ⟨Nat.le_of_ble_eq_true rfl, Nat.le_of_ble_eq_true rfl, Nat.zero_le _, Nat.zero_le _⟩ (sX3_at p1.row hc5) ?_
      obtain ⟨r8, hc7, hf⟩ := fd_bi hf
      refine fr_callSz (pc := 59) (av := [.int (fd_irem a2 (8 : Int32)), .int r2, .int r6]) dX8_fits_59 yy_X8_fitsDebt kw_230 rfl rfl (Nat.le_of_ble_eq_true rfl) ⟨Nat.le_of_ble_eq_true rfl, Nat.le_of_ble_eq_true rfl, Nat.zero_le _, Nat.zero_le _⟩ (sX8_fitsDebt hc7) ?_
      exact fr_zretP (x := r8) (pc := 62) dX8_fits_62 rfl hf
    · have hf := fd_t c4 hf
      refine fr_iload_n (pc := 26) dX8_fits_26 0 rfl rfl ?_
      refine fr_bipush (pc := 27) (v := (97 : Int32)) dX8_fits_27 (by decide) ?_
      refine fr_icmp_lt (pc := 29) 42 dX8_fits_29 (by decide) (fun c9 => ?_) (fun c9 => ?_)
      · have hf := fd_t c9 hf
        refine fr_iconst (pc := 42) (v := (0 : Int32)) dX8_fits_42 (by decide) ?_
        exact fr_zretP (x := false) (pc := 43) dX8_fits_43 rfl hf
      · have hf := fd_f c9 hf
        refine fr_iload_n (pc := 32) dX8_fits_32 0 rfl rfl ?_
        refine fr_bipush (pc := 33) (v := (122 : Int32)) dX8_fits_33 (by decide) ?_
        refine fr_icmp_gt (pc := 35) 42 dX8_fits_35 (by decide) (fun c10 => ?_) (fun c10 => ?_)
        · have hf := fd_t c10 hf
          refine fr_iconst (pc := 42) (v := (0 : Int32)) dX8_fits_42 (by decide) ?_
          exact fr_zretP (x := false) (pc := 43) dX8_fits_43 rfl hf
        · have hf := fd_f c10 hf
          refine fr_iconst (pc := 38) (v := (1 : Int32)) dX8_fits_38 (by decide) ?_
          refine fr_goto (pc := 39) 43 dX8_fits_39 (by decide) ?_
          exact fr_zretP (x := true) (pc := 43) dX8_fits_43 rfl hf
  · have hf := fd_t c3 hf
    refine fr_iload_n (pc := 13) dX8_fits_13 3 rfl rfl ?_
    refine fr_iconst (pc := 14) (v := (3 : Int32)) dX8_fits_14 (by decide) ?_
    refine fr_irem (pc := 15) dX8_fits_15 (by decide) ?_
    refine fr_iload_n (pc := 16) dX8_fits_16 0 rfl rfl ?_
    obtain ⟨r12, hc11, hf⟩ := fd_bi hf
    refine fr_callSz (pc := 17) (av := [.int (fd_irem a2 (3 : Int32)), .int r2]) dX8_fits_17 yy_X8_fitsPlace kw_233 rfl rfl (Nat.le_of_ble_eq_true rfl) ⟨Nat.le_of_ble_eq_true rfl, Nat.le_of_ble_eq_true rfl, Nat.zero_le _, Nat.zero_le _⟩ (sX8_fitsPlace hc11) ?_
    exact fr_zretP (x := r12) (pc := 20) dX8_fits_20 rfl hf
theorem dX8_isStanding_0 : decode cX8_isStanding 0 = .ok (.aload_n 0, 1) := by decide +kernel
theorem dX8_isStanding_1 : decode cX8_isStanding 1 = .ok (.getfield 33, 3) := by decide +kernel
theorem dX8_isStanding_4 : decode cX8_isStanding 4 = .ok (.iload_n 1, 1) := by decide +kernel
theorem dX8_isStanding_5 : decode cX8_isStanding 5 = .ok (.iconst 3, 1) := by decide +kernel
theorem dX8_isStanding_6 : decode cX8_isStanding 6 = .ok (.invokevirtual 107, 3) := by decide +kernel
theorem dX8_isStanding_9 : decode cX8_isStanding 9 = .ok (.istore 4, 2) := by decide +kernel
theorem dX8_isStanding_11 : decode cX8_isStanding 11 = .ok (.aload_n 0, 1) := by decide +kernel
theorem dX8_isStanding_12 : decode cX8_isStanding 12 = .ok (.getfield 29, 3) := by decide +kernel
theorem dX8_isStanding_15 : decode cX8_isStanding 15 = .ok (.iload 4, 2) := by decide +kernel
theorem dX8_isStanding_17 : decode cX8_isStanding 17 = .ok (.invokevirtual 80, 3) := by decide +kernel
theorem dX8_isStanding_20 : decode cX8_isStanding 20 = .ok (.ifCond .eq 30, 3) := by decide +kernel
theorem dX8_isStanding_23 : decode cX8_isStanding 23 = .ok (.aload_n 0, 1) := by decide +kernel
theorem dX8_isStanding_24 : decode cX8_isStanding 24 = .ok (.getfield 33, 3) := by decide +kernel
theorem dX8_isStanding_27 : decode cX8_isStanding 27 = .ok (.iload_n 1, 1) := by decide +kernel
theorem dX8_isStanding_28 : decode cX8_isStanding 28 = .ok (.iconst 4, 1) := by decide +kernel
theorem dX8_isStanding_29 : decode cX8_isStanding 29 = .ok (.invokevirtual 107, 3) := by decide +kernel
theorem dX8_isStanding_32 : decode cX8_isStanding 32 = .ok (.iload_n 2, 1) := by decide +kernel
theorem dX8_isStanding_33 : decode cX8_isStanding 33 = .ok (.if_icmp .gt 17, 3) := by decide +kernel
theorem dX8_isStanding_36 : decode cX8_isStanding 36 = .ok (.aload_n 3, 1) := by decide +kernel
theorem dX8_isStanding_37 : decode cX8_isStanding 37 = .ok (.iload 4, 2) := by decide +kernel
theorem dX8_isStanding_39 : decode cX8_isStanding 39 = .ok (.iload_n 2, 1) := by decide +kernel
theorem dX8_isStanding_40 : decode cX8_isStanding 40 = .ok (.invokevirtual 151, 3) := by decide +kernel
theorem dX8_isStanding_43 : decode cX8_isStanding 43 = .ok (.ifCond .ne 7, 3) := by decide +kernel
theorem dX8_isStanding_46 : decode cX8_isStanding 46 = .ok (.iconst 1, 1) := by decide +kernel
theorem dX8_isStanding_47 : decode cX8_isStanding 47 = .ok (.goto 4, 3) := by decide +kernel
theorem dX8_isStanding_50 : decode cX8_isStanding 50 = .ok (.iconst 0, 1) := by decide +kernel
theorem dX8_isStanding_51 : decode cX8_isStanding 51 = .ok (.ireturn, 1) := by decide +kernel
def fX8_isStanding (a1 : Int32) (a2 : Int32) (k3 : Nat) (h : fd_H) : Option (Bool) :=
(fX0_fact a1 (3 : Int32) h).bind fun r2 =>
(fX2_has r2 h).bind fun r4 =>
if r4 = true then (
(fX0_fact a1 (4 : Int32) h).bind fun r7 =>
if a2 < r7 then (
some (false))
else (
(fX5_isBy k3 r2 a2 h).bind fun r10 =>
if r10 = true then (
some (false))
else (
some (true))))
else (
some (false))
set_option maxRecDepth 100000 in
set_option maxHeartbeats 4000000 in
theorem sX8_isStanding {g : fd_G} {hm : fd_H} {a1 : Int32} {a2 : Int32} {k3 : Nat} {h : fd_H} {r : Bool} (p3 : fd_isSpans k3) (hf : fX8_isStanding a1 a2 k3 h = some r) : fd_S g mX8_isStanding 2 [.ref (g.2.2.2 + 0), .int a1, .int a2, .ref (g.2.2.2 + k3)] fd_X0 (fd_mx h hm) (some (.int (fd_b r))) fd_X0 (fd_mx h hm) 0 0 := by
  refine fd_S.of (by decide +kernel) (Nat.le_of_ble_eq_true rfl) ?_
  unfold fX8_isStanding at hf
  refine fr_loc (lv' := [(0, .ref (g.2.2.2 + 0)), (1, .int a1), (2, .int a2), (3, .ref (g.2.2.2 + k3))]) [0, 1, 2, 3] rfl ?_
  refine fr_aload_n (pc := 0) dX8_isStanding_0 0 rfl rfl ?_
  refine fr_getR (pc := 1) dX8_isStanding_1 fl_X8_33 (by decide) rfl rfl ?_
  refine fr_iload_n (pc := 4) dX8_isStanding_4 1 rfl rfl ?_
  refine fr_iconst (pc := 5) (v := (3 : Int32)) dX8_isStanding_5 (by decide) ?_
  obtain ⟨r2, hc1, hf⟩ := fd_bi hf
  refine fr_callVi (pc := 6) (av := [.int a1, .int (3 : Int32)]) dX8_isStanding_6 yy_X0_fact kw_195 (by decide) rfl rfl rfl rfl (Nat.le_of_ble_eq_true rfl) ⟨Nat.le_of_ble_eq_true rfl, Nat.le_of_ble_eq_true rfl, Nat.zero_le _, Nat.zero_le _⟩ (sX0_fact hc1) ?_
  refine fr_istore (pc := 9) (lv' := [(4, .int r2), (0, .ref (g.2.2.2 + 0)), (1, .int a1), (2, .int a2), (3, .ref (g.2.2.2 + k3))]) dX8_isStanding_9 (by decide) rfl ?_
  refine fr_aload_n (pc := 11) dX8_isStanding_11 1 rfl rfl ?_
  refine fr_getR (pc := 12) dX8_isStanding_12 fl_X8_29 (by decide) rfl rfl ?_
  refine fr_iload (pc := 15) dX8_isStanding_15 0 rfl ?_
  obtain ⟨r4, hc3, hf⟩ := fd_bi hf
  refine fr_callVz (pc := 17) (av := [.int r2]) dX8_isStanding_17 yy_X2_has kw_108 (by decide) rfl rfl rfl rfl (Nat.le_of_ble_eq_true rfl) ⟨Nat.le_of_ble_eq_true rfl, Nat.le_of_ble_eq_true rfl, Nat.zero_le _, Nat.zero_le _⟩ (sX2_has hc3) ?_
  refine fr_bz (pc := 20) 50 dX8_isStanding_20 (by decide) (fun c5 => ?_) (fun c5 => ?_)
  · have hf := fd_f c5 hf
    refine fr_iconst (pc := 50) (v := (0 : Int32)) dX8_isStanding_50 (by decide) ?_
    exact fr_zretP (x := false) (pc := 51) dX8_isStanding_51 rfl hf
  · have hf := fd_t c5 hf
    refine fr_aload_n (pc := 23) dX8_isStanding_23 1 rfl rfl ?_
    refine fr_getR (pc := 24) dX8_isStanding_24 fl_X8_33 (by decide) rfl rfl ?_
    refine fr_iload_n (pc := 27) dX8_isStanding_27 2 rfl rfl ?_
    refine fr_iconst (pc := 28) (v := (4 : Int32)) dX8_isStanding_28 (by decide) ?_
    obtain ⟨r7, hc6, hf⟩ := fd_bi hf
    refine fr_callVi (pc := 29) (av := [.int a1, .int (4 : Int32)]) dX8_isStanding_29 yy_X0_fact kw_195 (by decide) rfl rfl rfl rfl (Nat.le_of_ble_eq_true rfl) ⟨Nat.le_of_ble_eq_true rfl, Nat.le_of_ble_eq_true rfl, Nat.zero_le _, Nat.zero_le _⟩ (sX0_fact hc6) ?_
    refine fr_iload_n (pc := 32) dX8_isStanding_32 3 rfl rfl ?_
    refine fr_icmp_gt (pc := 33) 50 dX8_isStanding_33 (by decide) (fun c8 => ?_) (fun c8 => ?_)
    · have hf := fd_t c8 hf
      refine fr_iconst (pc := 50) (v := (0 : Int32)) dX8_isStanding_50 (by decide) ?_
      exact fr_zretP (x := false) (pc := 51) dX8_isStanding_51 rfl hf
    · have hf := fd_f c8 hf
      refine fr_aload_n (pc := 36) dX8_isStanding_36 4 rfl rfl ?_
      refine fr_iload (pc := 37) dX8_isStanding_37 0 rfl ?_
      refine fr_iload_n (pc := 39) dX8_isStanding_39 3 rfl rfl ?_
      obtain ⟨r10, hc9, hf⟩ := fd_bi hf
      refine fr_callVz (pc := 40) (av := [.int r2, .int a2]) dX8_isStanding_40 yy_X5_isBy kw_199 p3.b p3.s rfl rfl rfl (Nat.le_of_ble_eq_true rfl) ⟨Nat.le_of_ble_eq_true rfl, Nat.le_of_ble_eq_true rfl, Nat.zero_le _, Nat.zero_le _⟩ (sX5_isBy p3 hc9) ?_
      refine fr_bn (pc := 43) 50 dX8_isStanding_43 (by decide) (fun c11 => ?_) (fun c11 => ?_)
      · have hf := fd_t c11 hf
        refine fr_iconst (pc := 50) (v := (0 : Int32)) dX8_isStanding_50 (by decide) ?_
        exact fr_zretP (x := false) (pc := 51) dX8_isStanding_51 rfl hf
      · have hf := fd_f c11 hf
        refine fr_iconst (pc := 46) (v := (1 : Int32)) dX8_isStanding_46 (by decide) ?_
        refine fr_goto (pc := 47) 51 dX8_isStanding_47 (by decide) ?_
        exact fr_zretP (x := true) (pc := 51) dX8_isStanding_51 rfl hf
theorem dX8_isAsSeen_0 : decode cX8_isAsSeen 0 = .ok (.iconst 0, 1) := by decide +kernel
theorem dX8_isAsSeen_1 : decode cX8_isAsSeen 1 = .ok (.istore_n 2, 1) := by decide +kernel
theorem dX8_isAsSeen_2 : decode cX8_isAsSeen 2 = .ok (.iload_n 2, 1) := by decide +kernel
theorem dX8_isAsSeen_3 : decode cX8_isAsSeen 3 = .ok (.aload_n 0, 1) := by decide +kernel
theorem dX8_isAsSeen_4 : decode cX8_isAsSeen 4 = .ok (.getfield 40, 3) := by decide +kernel
theorem dX8_isAsSeen_7 : decode cX8_isAsSeen 7 = .ok (.getfield 130, 3) := by decide +kernel
theorem dX8_isAsSeen_10 : decode cX8_isAsSeen 10 = .ok (.if_icmp .ge 85, 3) := by decide +kernel
theorem dX8_isAsSeen_13 : decode cX8_isAsSeen 13 = .ok (.aload_n 0, 1) := by decide +kernel
theorem dX8_isAsSeen_14 : decode cX8_isAsSeen 14 = .ok (.getfield 40, 3) := by decide +kernel
theorem dX8_isAsSeen_17 : decode cX8_isAsSeen 17 = .ok (.getfield 339, 3) := by decide +kernel
theorem dX8_isAsSeen_20 : decode cX8_isAsSeen 20 = .ok (.iload_n 2, 1) := by decide +kernel
theorem dX8_isAsSeen_21 : decode cX8_isAsSeen 21 = .ok (.invokevirtual 89, 3) := by decide +kernel
theorem dX8_isAsSeen_24 : decode cX8_isAsSeen 24 = .ok (.istore_n 3, 1) := by decide +kernel
theorem dX8_isAsSeen_25 : decode cX8_isAsSeen 25 = .ok (.aload_n 0, 1) := by decide +kernel
theorem dX8_isAsSeen_26 : decode cX8_isAsSeen 26 = .ok (.getfield 29, 3) := by decide +kernel
theorem dX8_isAsSeen_29 : decode cX8_isAsSeen 29 = .ok (.iload_n 3, 1) := by decide +kernel
theorem dX8_isAsSeen_30 : decode cX8_isAsSeen 30 = .ok (.invokevirtual 80, 3) := by decide +kernel
theorem dX8_isAsSeen_33 : decode cX8_isAsSeen 33 = .ok (.ifCond .eq 26, 3) := by decide +kernel
theorem dX8_isAsSeen_36 : decode cX8_isAsSeen 36 = .ok (.aload_n 1, 1) := by decide +kernel
theorem dX8_isAsSeen_37 : decode cX8_isAsSeen 37 = .ok (.iload_n 3, 1) := by decide +kernel
theorem dX8_isAsSeen_38 : decode cX8_isAsSeen 38 = .ok (.aload_n 0, 1) := by decide +kernel
theorem dX8_isAsSeen_39 : decode cX8_isAsSeen 39 = .ok (.getfield 40, 3) := by decide +kernel
theorem dX8_isAsSeen_42 : decode cX8_isAsSeen 42 = .ok (.getfield 342, 3) := by decide +kernel
theorem dX8_isAsSeen_45 : decode cX8_isAsSeen 45 = .ok (.iload_n 2, 1) := by decide +kernel
theorem dX8_isAsSeen_46 : decode cX8_isAsSeen 46 = .ok (.invokevirtual 89, 3) := by decide +kernel
theorem dX8_isAsSeen_49 : decode cX8_isAsSeen 49 = .ok (.invokevirtual 151, 3) := by decide +kernel
theorem dX8_isAsSeen_52 : decode cX8_isAsSeen 52 = .ok (.ifCond .eq 7, 3) := by decide +kernel
theorem dX8_isAsSeen_55 : decode cX8_isAsSeen 55 = .ok (.iconst 1, 1) := by decide +kernel
theorem dX8_isAsSeen_56 : decode cX8_isAsSeen 56 = .ok (.goto 4, 3) := by decide +kernel
theorem dX8_isAsSeen_59 : decode cX8_isAsSeen 59 = .ok (.iconst 0, 1) := by decide +kernel
theorem dX8_isAsSeen_60 : decode cX8_isAsSeen 60 = .ok (.istore 4, 2) := by decide +kernel
theorem dX8_isAsSeen_62 : decode cX8_isAsSeen 62 = .ok (.iload 4, 2) := by decide +kernel
theorem dX8_isAsSeen_64 : decode cX8_isAsSeen 64 = .ok (.aload_n 0, 1) := by decide +kernel
theorem dX8_isAsSeen_65 : decode cX8_isAsSeen 65 = .ok (.getfield 40, 3) := by decide +kernel
theorem dX8_isAsSeen_68 : decode cX8_isAsSeen 68 = .ok (.getfield 344, 3) := by decide +kernel
theorem dX8_isAsSeen_71 : decode cX8_isAsSeen 71 = .ok (.iload_n 2, 1) := by decide +kernel
theorem dX8_isAsSeen_72 : decode cX8_isAsSeen 72 = .ok (.invokevirtual 89, 3) := by decide +kernel
theorem dX8_isAsSeen_75 : decode cX8_isAsSeen 75 = .ok (.iconst 1, 1) := by decide +kernel
theorem dX8_isAsSeen_76 : decode cX8_isAsSeen 76 = .ok (.if_icmp .ne 7, 3) := by decide +kernel
theorem dX8_isAsSeen_79 : decode cX8_isAsSeen 79 = .ok (.iconst 1, 1) := by decide +kernel
theorem dX8_isAsSeen_80 : decode cX8_isAsSeen 80 = .ok (.goto 4, 3) := by decide +kernel
theorem dX8_isAsSeen_83 : decode cX8_isAsSeen 83 = .ok (.iconst 0, 1) := by decide +kernel
theorem dX8_isAsSeen_84 : decode cX8_isAsSeen 84 = .ok (.if_icmp .eq 5, 3) := by decide +kernel
theorem dX8_isAsSeen_87 : decode cX8_isAsSeen 87 = .ok (.iconst 0, 1) := by decide +kernel
theorem dX8_isAsSeen_88 : decode cX8_isAsSeen 88 = .ok (.ireturn, 1) := by decide +kernel
theorem dX8_isAsSeen_89 : decode cX8_isAsSeen 89 = .ok (.iinc 2 1, 3) := by decide +kernel
theorem dX8_isAsSeen_92 : decode cX8_isAsSeen 92 = .ok (.goto (-90), 3) := by decide +kernel
theorem dX8_isAsSeen_95 : decode cX8_isAsSeen 95 = .ok (.iconst 1, 1) := by decide +kernel
theorem dX8_isAsSeen_96 : decode cX8_isAsSeen 96 = .ok (.ireturn, 1) := by decide +kernel
def fX8_isAsSeen_L84 (k1 : Nat) (h : fd_H) (K2 : Int32 → Option (Bool)) (v2 : Int32) (vs0 : Bool) (vs1 : Bool) : Option (Bool) :=
if (fd_b vs1) = (fd_b vs0) then (
K2 (v2 + (1 : Int32)))
else (
some (false))
set_option maxRecDepth 100000 in
set_option maxHeartbeats 4000000 in
theorem sX8_isAsSeen_L84 {g : fd_G} {hm : fd_H} {k1 : Nat} {h : fd_H} {r : Bool} (p1 : fd_isSpans k1) {K2 : Int32 → Option (Bool)} (hK2 : ∀ (v2 : Int32), K2 v2 = some r → fd_A g mX8_isAsSeen fd_E (fd_rm 2 0 0) (fd_Q g (some (.int (fd_b r))) fd_X0 (fd_mx h hm) 0 0) 2 [(0, .ref (g.2.2.2 + 0)), (1, .ref (g.2.2.2 + k1)), (2, .int v2)] [] fd_X0 (fd_mx h hm) 0 0) : ∀ (v2 : Int32) (vs0 : Bool) (vs1 : Bool), fX8_isAsSeen_L84 k1 h K2 v2 vs0 vs1 = some r → fd_A g mX8_isAsSeen fd_E (fd_rm 2 0 0) (fd_Q g (some (.int (fd_b r))) fd_X0 (fd_mx h hm) 0 0) 84 [(0, .ref (g.2.2.2 + 0)), (1, .ref (g.2.2.2 + k1)), (2, .int v2)] [.int (fd_b vs0), .int (fd_b vs1)] fd_X0 (fd_mx h hm) 0 0 := by
  intro v2 vs0 vs1 hf
  unfold fX8_isAsSeen_L84 at hf
  refine fr_icmp_eq (pc := 84) 89 dX8_isAsSeen_84 (by decide) (fun c1 => ?_) (fun c1 => ?_)
  · have hf := fd_t c1 hf
    refine fr_iinc (pc := 89) (v := (v2 + (1 : Int32))) (lv' := [(2, .int (v2 + (1 : Int32))), (0, .ref (g.2.2.2 + 0)), (1, .ref (g.2.2.2 + k1))]) dX8_isAsSeen_89 2 rfl rfl (by decide) rfl ?_
    refine fr_goto (pc := 92) 2 dX8_isAsSeen_92 (by decide) ?_
    refine fr_loc (lv' := [(0, .ref (g.2.2.2 + 0)), (1, .ref (g.2.2.2 + k1)), (2, .int (v2 + (1 : Int32)))]) [1, 2, 0] rfl ?_
    exact hK2 _ hf
  · have hf := fd_f c1 hf
    refine fr_iconst (pc := 87) (v := (0 : Int32)) dX8_isAsSeen_87 (by decide) ?_
    exact fr_zretP (x := false) (pc := 88) dX8_isAsSeen_88 rfl hf
def fX8_isAsSeen_L60 (k1 : Nat) (h : fd_H) (K2 : Int32 → Option (Bool)) (v2 : Int32) (vs0 : Bool) : Option (Bool) :=
(fX3_at 56 8 v2 h).bind fun r2 =>
if r2 = (1 : Int32) then (
fX8_isAsSeen_L84 k1 h K2 v2 true vs0)
else (
fX8_isAsSeen_L84 k1 h K2 v2 false vs0)
set_option maxRecDepth 100000 in
set_option maxHeartbeats 4000000 in
theorem sX8_isAsSeen_L60 {g : fd_G} {hm : fd_H} {k1 : Nat} {h : fd_H} {r : Bool} (p1 : fd_isSpans k1) {K2 : Int32 → Option (Bool)} (hK2 : ∀ (v2 : Int32), K2 v2 = some r → fd_A g mX8_isAsSeen fd_E (fd_rm 2 0 0) (fd_Q g (some (.int (fd_b r))) fd_X0 (fd_mx h hm) 0 0) 2 [(0, .ref (g.2.2.2 + 0)), (1, .ref (g.2.2.2 + k1)), (2, .int v2)] [] fd_X0 (fd_mx h hm) 0 0) : ∀ (v2 : Int32) (vs0 : Bool), fX8_isAsSeen_L60 k1 h K2 v2 vs0 = some r → fd_A g mX8_isAsSeen fd_E (fd_rm 2 0 0) (fd_Q g (some (.int (fd_b r))) fd_X0 (fd_mx h hm) 0 0) 60 [(0, .ref (g.2.2.2 + 0)), (1, .ref (g.2.2.2 + k1)), (2, .int v2)] [.int (fd_b vs0)] fd_X0 (fd_mx h hm) 0 0 := by
  intro v2 vs0 hf
  unfold fX8_isAsSeen_L60 at hf
  refine fr_istore (pc := 60) (lv' := [(4, .int (fd_b vs0)), (0, .ref (g.2.2.2 + 0)), (1, .ref (g.2.2.2 + k1)), (2, .int v2)]) dX8_isAsSeen_60 (by decide) rfl ?_
  refine fr_iload (pc := 62) dX8_isAsSeen_62 0 rfl ?_
  refine fr_aload_n (pc := 64) dX8_isAsSeen_64 1 rfl rfl ?_
  refine fr_getR (pc := 65) dX8_isAsSeen_65 fl_X8_40 (by decide) rfl rfl ?_
  refine fr_getR (pc := 68) dX8_isAsSeen_68 fl_X8_344 (by decide) rfl rfl ?_
  refine fr_iload_n (pc := 71) dX8_isAsSeen_71 3 rfl rfl ?_
  obtain ⟨r2, hc1, hf⟩ := fd_bi hf
  refine fr_callVi (pc := 72) (av := [.int v2]) dX8_isAsSeen_72 yy_X3_at kw_113 (by decide) rfl rfl rfl rfl (Nat.le_of_ble_eq_true rfl) ⟨Nat.le_of_ble_eq_true rfl, Nat.le_of_ble_eq_true rfl, Nat.zero_le _, Nat.zero_le _⟩ (sX3_at is_56 hc1) ?_
  refine fr_iconst (pc := 75) (v := (1 : Int32)) dX8_isAsSeen_75 (by decide) ?_
  refine fr_icmp_ne (pc := 76) 83 dX8_isAsSeen_76 (by decide) (fun c3 => ?_) (fun c3 => ?_)
  · have hf := fd_f c3 hf
    refine fr_iconst (pc := 83) (v := (0 : Int32)) dX8_isAsSeen_83 (by decide) ?_
    refine fr_loc (lv' := [(0, .ref (g.2.2.2 + 0)), (1, .ref (g.2.2.2 + k1)), (2, .int v2)]) [1, 2, 3] rfl ?_
    exact sX8_isAsSeen_L84 p1 hK2  _ _ _ hf
  · have hf := fd_t c3 hf
    refine fr_iconst (pc := 79) (v := (1 : Int32)) dX8_isAsSeen_79 (by decide) ?_
    refine fr_goto (pc := 80) 84 dX8_isAsSeen_80 (by decide) ?_
    refine fr_loc (lv' := [(0, .ref (g.2.2.2 + 0)), (1, .ref (g.2.2.2 + k1)), (2, .int v2)]) [1, 2, 3] rfl ?_
    exact sX8_isAsSeen_L84 p1 hK2  _ _ _ hf
def fX8_isAsSeen_L59 (k1 : Nat) (h : fd_H) (K2 : Int32 → Option (Bool)) (v2 : Int32) : Option (Bool) :=
fX8_isAsSeen_L60 k1 h K2 v2 false
set_option maxRecDepth 100000 in
set_option maxHeartbeats 4000000 in
theorem sX8_isAsSeen_L59 {g : fd_G} {hm : fd_H} {k1 : Nat} {h : fd_H} {r : Bool} (p1 : fd_isSpans k1) {K2 : Int32 → Option (Bool)} (hK2 : ∀ (v2 : Int32), K2 v2 = some r → fd_A g mX8_isAsSeen fd_E (fd_rm 2 0 0) (fd_Q g (some (.int (fd_b r))) fd_X0 (fd_mx h hm) 0 0) 2 [(0, .ref (g.2.2.2 + 0)), (1, .ref (g.2.2.2 + k1)), (2, .int v2)] [] fd_X0 (fd_mx h hm) 0 0) : ∀ (v2 : Int32), fX8_isAsSeen_L59 k1 h K2 v2 = some r → fd_A g mX8_isAsSeen fd_E (fd_rm 2 0 0) (fd_Q g (some (.int (fd_b r))) fd_X0 (fd_mx h hm) 0 0) 59 [(0, .ref (g.2.2.2 + 0)), (1, .ref (g.2.2.2 + k1)), (2, .int v2)] [] fd_X0 (fd_mx h hm) 0 0 := by
  intro v2 hf
  unfold fX8_isAsSeen_L59 at hf
  refine fr_iconst (pc := 59) (v := (0 : Int32)) dX8_isAsSeen_59 (by decide) ?_
  refine fr_loc (lv' := [(0, .ref (g.2.2.2 + 0)), (1, .ref (g.2.2.2 + k1)), (2, .int v2)]) [0, 1, 2] rfl ?_
  exact sX8_isAsSeen_L60 p1 hK2  _ _ hf
def fX8_isAsSeen_L2 (k1 : Nat) (h : fd_H) : Nat → Int32 → Option (Bool)
  | 0 => fun _ => none
  | n + 1 => fun v2 =>
if (h.1 51 3) ≤ v2 then (
some (true))
else (
(fX3_at 54 8 v2 h).bind fun r3 =>
(fX2_has r3 h).bind fun r5 =>
if r5 = true then (
(fX3_at 52 8 v2 h).bind fun r8 =>
(fX5_isBy k1 r3 r8 h).bind fun r10 =>
if r10 = true then (
fX8_isAsSeen_L60 k1 h (fX8_isAsSeen_L2 k1 h n) v2 true)
else (
fX8_isAsSeen_L59 k1 h (fX8_isAsSeen_L2 k1 h n) v2))
else (
fX8_isAsSeen_L59 k1 h (fX8_isAsSeen_L2 k1 h n) v2))
set_option maxRecDepth 100000 in
set_option maxHeartbeats 4000000 in
theorem sX8_isAsSeen_L2 {g : fd_G} {hm : fd_H} {k1 : Nat} {h : fd_H} {r : Bool} (p1 : fd_isSpans k1) : ∀ (n : Nat) (v2 : Int32), fX8_isAsSeen_L2 k1 h n v2 = some r → fd_A g mX8_isAsSeen fd_E (fd_rm 2 0 0) (fd_Q g (some (.int (fd_b r))) fd_X0 (fd_mx h hm) 0 0) 2 [(0, .ref (g.2.2.2 + 0)), (1, .ref (g.2.2.2 + k1)), (2, .int v2)] [] fd_X0 (fd_mx h hm) 0 0 := by
  intro n
  induction n with
  | zero =>
    intro _ hf
    cases hf
  | succ n ih =>
    intro v2 hf
    rw [fX8_isAsSeen_L2] at hf
    refine fr_iload_n (pc := 2) dX8_isAsSeen_2 2 rfl rfl ?_
    refine fr_aload_n (pc := 3) dX8_isAsSeen_3 0 rfl rfl ?_
    refine fr_getR (pc := 4) dX8_isAsSeen_4 fl_X8_40 (by decide) rfl rfl ?_
    refine vx_getI (pc := 7) dX8_isAsSeen_7 fl_X8_130 (by decide) (by decide) rfl rfl ?_
    refine fr_icmp_ge (pc := 10) 95 dX8_isAsSeen_10 (by decide) (fun c1 => ?_) (fun c1 => ?_)
    · have hf := fd_t c1 hf
      refine fr_iconst (pc := 95) (v := (1 : Int32)) dX8_isAsSeen_95 (by decide) ?_
      exact fr_zretP (x := true) (pc := 96) dX8_isAsSeen_96 rfl hf
    · have hf := fd_f c1 hf
      refine fr_aload_n (pc := 13) dX8_isAsSeen_13 0 rfl rfl ?_
      refine fr_getR (pc := 14) dX8_isAsSeen_14 fl_X8_40 (by decide) rfl rfl ?_
      refine fr_getR (pc := 17) dX8_isAsSeen_17 fl_X8_339 (by decide) rfl rfl ?_
      refine fr_iload_n (pc := 20) dX8_isAsSeen_20 2 rfl rfl ?_
      obtain ⟨r3, hc2, hf⟩ := fd_bi hf
      refine fr_callVi (pc := 21) (av := [.int v2]) dX8_isAsSeen_21 yy_X3_at kw_113 (by decide) rfl rfl rfl rfl (Nat.le_of_ble_eq_true rfl) ⟨Nat.le_of_ble_eq_true rfl, Nat.le_of_ble_eq_true rfl, Nat.zero_le _, Nat.zero_le _⟩ (sX3_at is_54 hc2) ?_
      refine fr_istore_n (pc := 24) (lv' := [(3, .int r3), (0, .ref (g.2.2.2 + 0)), (1, .ref (g.2.2.2 + k1)), (2, .int v2)]) dX8_isAsSeen_24 rfl (by decide) rfl ?_
      refine fr_aload_n (pc := 25) dX8_isAsSeen_25 1 rfl rfl ?_
      refine fr_getR (pc := 26) dX8_isAsSeen_26 fl_X8_29 (by decide) rfl rfl ?_
      refine fr_iload_n (pc := 29) dX8_isAsSeen_29 0 rfl rfl ?_
      obtain ⟨r5, hc4, hf⟩ := fd_bi hf
      refine fr_callVz (pc := 30) (av := [.int r3]) dX8_isAsSeen_30 yy_X2_has kw_108 (by decide) rfl rfl rfl rfl (Nat.le_of_ble_eq_true rfl) ⟨Nat.le_of_ble_eq_true rfl, Nat.le_of_ble_eq_true rfl, Nat.zero_le _, Nat.zero_le _⟩ (sX2_has hc4) ?_
      refine fr_bz (pc := 33) 59 dX8_isAsSeen_33 (by decide) (fun c6 => ?_) (fun c6 => ?_)
      · have hf := fd_f c6 hf
        refine fr_loc (lv' := [(0, .ref (g.2.2.2 + 0)), (1, .ref (g.2.2.2 + k1)), (2, .int v2)]) [1, 2, 3] rfl ?_
        exact sX8_isAsSeen_L59 p1 ih  _ hf
      · have hf := fd_t c6 hf
        refine fr_aload_n (pc := 36) dX8_isAsSeen_36 2 rfl rfl ?_
        refine fr_iload_n (pc := 37) dX8_isAsSeen_37 0 rfl rfl ?_
        refine fr_aload_n (pc := 38) dX8_isAsSeen_38 1 rfl rfl ?_
        refine fr_getR (pc := 39) dX8_isAsSeen_39 fl_X8_40 (by decide) rfl rfl ?_
        refine fr_getR (pc := 42) dX8_isAsSeen_42 fl_X8_342 (by decide) rfl rfl ?_
        refine fr_iload_n (pc := 45) dX8_isAsSeen_45 3 rfl rfl ?_
        obtain ⟨r8, hc7, hf⟩ := fd_bi hf
        refine fr_callVi (pc := 46) (av := [.int v2]) dX8_isAsSeen_46 yy_X3_at kw_113 (by decide) rfl rfl rfl rfl (Nat.le_of_ble_eq_true rfl) ⟨Nat.le_of_ble_eq_true rfl, Nat.le_of_ble_eq_true rfl, Nat.zero_le _, Nat.zero_le _⟩ (sX3_at is_52 hc7) ?_
        obtain ⟨r10, hc9, hf⟩ := fd_bi hf
        refine fr_callVz (pc := 49) (av := [.int r3, .int r8]) dX8_isAsSeen_49 yy_X5_isBy kw_199 p1.b p1.s rfl rfl rfl (Nat.le_of_ble_eq_true rfl) ⟨Nat.le_of_ble_eq_true rfl, Nat.le_of_ble_eq_true rfl, Nat.zero_le _, Nat.zero_le _⟩ (sX5_isBy p1 hc9) ?_
        refine fr_bz (pc := 52) 59 dX8_isAsSeen_52 (by decide) (fun c11 => ?_) (fun c11 => ?_)
        · have hf := fd_f c11 hf
          refine fr_loc (lv' := [(0, .ref (g.2.2.2 + 0)), (1, .ref (g.2.2.2 + k1)), (2, .int v2)]) [1, 2, 3] rfl ?_
          exact sX8_isAsSeen_L59 p1 ih  _ hf
        · have hf := fd_t c11 hf
          refine fr_iconst (pc := 55) (v := (1 : Int32)) dX8_isAsSeen_55 (by decide) ?_
          refine fr_goto (pc := 56) 60 dX8_isAsSeen_56 (by decide) ?_
          refine fr_loc (lv' := [(0, .ref (g.2.2.2 + 0)), (1, .ref (g.2.2.2 + k1)), (2, .int v2)]) [1, 2, 3] rfl ?_
          exact sX8_isAsSeen_L60 p1 ih  _ _ hf
def fX8_isAsSeen (k1 : Nat) (h : fd_H) : Option (Bool) :=
fX8_isAsSeen_L2 k1 h fd_fu (0 : Int32)
set_option maxRecDepth 100000 in
set_option maxHeartbeats 4000000 in
theorem sX8_isAsSeen {g : fd_G} {hm : fd_H} {k1 : Nat} {h : fd_H} {r : Bool} (p1 : fd_isSpans k1) (hf : fX8_isAsSeen k1 h = some r) : fd_S g mX8_isAsSeen 2 [.ref (g.2.2.2 + 0), .ref (g.2.2.2 + k1)] fd_X0 (fd_mx h hm) (some (.int (fd_b r))) fd_X0 (fd_mx h hm) 0 0 := by
  refine fd_S.of (by decide +kernel) (Nat.le_of_ble_eq_true rfl) ?_
  unfold fX8_isAsSeen at hf
  refine fr_loc (lv' := [(0, .ref (g.2.2.2 + 0)), (1, .ref (g.2.2.2 + k1))]) [0, 1] rfl ?_
  refine fr_iconst (pc := 0) (v := (0 : Int32)) dX8_isAsSeen_0 (by decide) ?_
  refine fr_istore_n (pc := 1) (lv' := [(2, .int (0 : Int32)), (0, .ref (g.2.2.2 + 0)), (1, .ref (g.2.2.2 + k1))]) dX8_isAsSeen_1 rfl (by decide) rfl ?_
  refine fr_loc (lv' := [(0, .ref (g.2.2.2 + 0)), (1, .ref (g.2.2.2 + k1)), (2, .int (0 : Int32))]) [1, 2, 0] rfl ?_
  exact sX8_isAsSeen_L2 p1 _  _ hf
theorem dX9_type_0 : decode cX9_type 0 = .ok (.iload_n 1, 1) := by decide +kernel
theorem dX9_type_1 : decode cX9_type 1 = .ok (.invokestatic 93, 3) := by decide +kernel
theorem dX9_type_4 : decode cX9_type 4 = .ok (.ifCond .eq 14, 3) := by decide +kernel
theorem dX9_type_7 : decode cX9_type 7 = .ok (.iload_n 2, 1) := by decide +kernel
theorem dX9_type_8 : decode cX9_type 8 = .ok (.iconst 0, 1) := by decide +kernel
theorem dX9_type_9 : decode cX9_type 9 = .ok (.sipush 255, 3) := by decide +kernel
theorem dX9_type_12 : decode cX9_type 12 = .ok (.invokestatic 89, 3) := by decide +kernel
theorem dX9_type_15 : decode cX9_type 15 = .ok (.ifCond .ne 6, 3) := by decide +kernel
theorem dX9_type_18 : decode cX9_type 18 = .ok (.bipush (-2), 2) := by decide +kernel
theorem dX9_type_20 : decode cX9_type 20 = .ok (.ireturn, 1) := by decide +kernel
theorem dX9_type_21 : decode cX9_type 21 = .ok (.aload_n 0, 1) := by decide +kernel
theorem dX9_type_22 : decode cX9_type 22 = .ok (.getfield 7, 3) := by decide +kernel
theorem dX9_type_25 : decode cX9_type 25 = .ok (.iload_n 1, 1) := by decide +kernel
theorem dX9_type_26 : decode cX9_type 26 = .ok (.iaload, 1) := by decide +kernel
theorem dX9_type_27 : decode cX9_type 27 = .ok (.iload_n 1, 1) := by decide +kernel
theorem dX9_type_28 : decode cX9_type 28 = .ok (.ifCond .ne 8, 3) := by decide +kernel
theorem dX9_type_31 : decode cX9_type 31 = .ok (.bipush 23, 2) := by decide +kernel
theorem dX9_type_33 : decode cX9_type 33 = .ok (.goto 15, 3) := by decide +kernel
theorem dX9_type_36 : decode cX9_type 36 = .ok (.iload_n 1, 1) := by decide +kernel
theorem dX9_type_37 : decode cX9_type 37 = .ok (.iconst 1, 1) := by decide +kernel
theorem dX9_type_38 : decode cX9_type 38 = .ok (.if_icmp .ne 8, 3) := by decide +kernel
theorem dX9_type_41 : decode cX9_type 41 = .ok (.bipush 40, 2) := by decide +kernel
theorem dX9_type_43 : decode cX9_type 43 = .ok (.goto 5, 3) := by decide +kernel
theorem dX9_type_46 : decode cX9_type 46 = .ok (.bipush 71, 2) := by decide +kernel
theorem dX9_type_48 : decode cX9_type 48 = .ok (.if_icmp .ne 6, 3) := by decide +kernel
theorem dX9_type_51 : decode cX9_type 51 = .ok (.bipush (-4), 2) := by decide +kernel
theorem dX9_type_53 : decode cX9_type 53 = .ok (.ireturn, 1) := by decide +kernel
theorem dX9_type_54 : decode cX9_type 54 = .ok (.aload_n 0, 1) := by decide +kernel
theorem dX9_type_55 : decode cX9_type 55 = .ok (.getfield 13, 3) := by decide +kernel
theorem dX9_type_58 : decode cX9_type 58 = .ok (.bipush 71, 2) := by decide +kernel
theorem dX9_type_60 : decode cX9_type 60 = .ok (.iload_n 1, 1) := by decide +kernel
theorem dX9_type_61 : decode cX9_type 61 = .ok (.imul, 1) := by decide +kernel
theorem dX9_type_62 : decode cX9_type 62 = .ok (.aload_n 0, 1) := by decide +kernel
theorem dX9_type_63 : decode cX9_type 63 = .ok (.getfield 7, 3) := by decide +kernel
theorem dX9_type_66 : decode cX9_type 66 = .ok (.iload_n 1, 1) := by decide +kernel
theorem dX9_type_67 : decode cX9_type 67 = .ok (.iaload, 1) := by decide +kernel
theorem dX9_type_68 : decode cX9_type 68 = .ok (.iadd, 1) := by decide +kernel
theorem dX9_type_69 : decode cX9_type 69 = .ok (.iload_n 2, 1) := by decide +kernel
theorem dX9_type_70 : decode cX9_type 70 = .ok (.iastore, 1) := by decide +kernel
theorem dX9_type_71 : decode cX9_type 71 = .ok (.aload_n 0, 1) := by decide +kernel
theorem dX9_type_72 : decode cX9_type 72 = .ok (.getfield 7, 3) := by decide +kernel
theorem dX9_type_75 : decode cX9_type 75 = .ok (.iload_n 1, 1) := by decide +kernel
theorem dX9_type_76 : decode cX9_type 76 = .ok (.dup2, 1) := by decide +kernel
theorem dX9_type_77 : decode cX9_type 77 = .ok (.iaload, 1) := by decide +kernel
theorem dX9_type_78 : decode cX9_type 78 = .ok (.iconst 1, 1) := by decide +kernel
theorem dX9_type_79 : decode cX9_type 79 = .ok (.iadd, 1) := by decide +kernel
theorem dX9_type_80 : decode cX9_type 80 = .ok (.iastore, 1) := by decide +kernel
theorem dX9_type_81 : decode cX9_type 81 = .ok (.aload_n 0, 1) := by decide +kernel
theorem dX9_type_82 : decode cX9_type 82 = .ok (.getfield 7, 3) := by decide +kernel
theorem dX9_type_85 : decode cX9_type 85 = .ok (.iload_n 1, 1) := by decide +kernel
theorem dX9_type_86 : decode cX9_type 86 = .ok (.iaload, 1) := by decide +kernel
theorem dX9_type_87 : decode cX9_type 87 = .ok (.ireturn, 1) := by decide +kernel
def fX9_type_L48 (a1 : Int32) (a2 : Int32) (vs0 : Int32) (vs1 : Int32) (h : fd_H) : Option (Int32 × fd_H) :=
if vs1 = vs0 then (
some ((-4 : Int32), h))
else (
fd_g (fd_in a1 3) (
fd_g (fd_in (((71 : Int32) * a1) + (h.1 74 a1.toNatClampNeg)) 213) (
fd_lt (fd_ui h 75 (((71 : Int32) * a1) + (h.1 74 a1.toNatClampNeg)).toNatClampNeg a2) fun h4 =>
fd_g (fd_in a1 3) (
fd_g (fd_in a1 3) (
fd_lt (fd_ui h4 74 a1.toNatClampNeg ((h4.1 74 a1.toNatClampNeg) + (1 : Int32))) fun h7 =>
fd_g (fd_in a1 3) (
some ((h7.1 74 a1.toNatClampNeg), h7)))))))
set_option maxRecDepth 100000 in
set_option maxHeartbeats 4000000 in
theorem sX9_type_L48 {g : fd_G} {hm : fd_H} {a1 : Int32} {a2 : Int32} {r : Int32 × fd_H} : ∀ (vs0 : Int32) (vs1 : Int32) (h : fd_H), fX9_type_L48 a1 a2 vs0 vs1 h = some r → fd_A g mX9_type fd_E (fd_rm 2 0 0) (fd_Q g (some (.int r.1)) fd_X0 (fd_mx hm r.2) 0 0) 48 [(0, .ref (g.2.2.2 + 73)), (1, .int a1), (2, .int a2)] [.int vs0, .int vs1] fd_X0 (fd_mx hm h) 0 0 := by
  intro vs0 vs1 h hf
  unfold fX9_type_L48 at hf
  refine fr_icmp_ne (pc := 48) 54 dX9_type_48 (by decide) (fun c1 => ?_) (fun c1 => ?_)
  · have hf := fd_f c1 hf
    refine fr_aload_n (pc := 54) dX9_type_54 0 rfl rfl ?_
    refine fr_getR (pc := 55) dX9_type_55 fl_X9_13 (by decide) rfl rfl ?_
    refine fr_bipush (pc := 58) (v := (71 : Int32)) dX9_type_58 (by decide) ?_
    refine fr_iload_n (pc := 60) dX9_type_60 1 rfl rfl ?_
    refine fr_imul (pc := 61) dX9_type_61 ?_
    refine fr_aload_n (pc := 62) dX9_type_62 0 rfl rfl ?_
    refine fr_getR (pc := 63) dX9_type_63 fl_X9_7 (by decide) rfl rfl ?_
    refine fr_iload_n (pc := 66) dX9_type_66 1 rfl rfl ?_
    obtain ⟨g2, hf⟩ := fd_g_e hf
    refine vm_iald (pc := 67) dX9_type_67 (by decide) (by decide) rfl g2 ?_
    refine fr_iadd (pc := 68) dX9_type_68 ?_
    refine fr_iload_n (pc := 69) dX9_type_69 2 rfl rfl ?_
    obtain ⟨g3, hf⟩ := fd_g_e hf
    obtain ⟨h4, eh4, hf⟩ := fd_lt_e hf
    refine vm_iast (pc := 70) dX9_type_70 (by decide) (by decide) rfl g3 eh4 ?_
    refine fr_aload_n (pc := 71) dX9_type_71 0 rfl rfl ?_
    refine fr_getR (pc := 72) dX9_type_72 fl_X9_7 (by decide) rfl rfl ?_
    refine fr_iload_n (pc := 75) dX9_type_75 1 rfl rfl ?_
    refine fr_dup2 (pc := 76) dX9_type_76 rfl rfl ?_
    obtain ⟨g5, hf⟩ := fd_g_e hf
    refine vm_iald (pc := 77) dX9_type_77 (by decide) (by decide) rfl g5 ?_
    refine fr_iconst (pc := 78) (v := (1 : Int32)) dX9_type_78 (by decide) ?_
    refine fr_iadd (pc := 79) dX9_type_79 ?_
    obtain ⟨g6, hf⟩ := fd_g_e hf
    obtain ⟨h7, eh7, hf⟩ := fd_lt_e hf
    refine vm_iast (pc := 80) dX9_type_80 (by decide) (by decide) rfl g6 eh7 ?_
    refine fr_aload_n (pc := 81) dX9_type_81 0 rfl rfl ?_
    refine fr_getR (pc := 82) dX9_type_82 fl_X9_7 (by decide) rfl rfl ?_
    refine fr_iload_n (pc := 85) dX9_type_85 1 rfl rfl ?_
    obtain ⟨g8, hf⟩ := fd_g_e hf
    refine vm_iald (pc := 86) dX9_type_86 (by decide) (by decide) rfl g8 ?_
    exact vm_iretW (x := (h7.1 74 a1.toNatClampNeg)) (pc := 87) dX9_type_87 rfl hf
  · have hf := fd_t c1 hf
    refine fr_bipush (pc := 51) (v := (-4 : Int32)) dX9_type_51 (by decide) ?_
    exact vm_iretW (x := (-4 : Int32)) (pc := 53) dX9_type_53 rfl hf
def fX9_type (a1 : Int32) (a2 : Int32) (h : fd_H) : Option (Int32 × fd_H) :=
(fX9_isText a1).bind fun r2 =>
if r2 = true then (
(fX9_in a2 (0 : Int32) (255 : Int32)).bind fun r5 =>
if r5 = true then (
fd_g (fd_in a1 3) (
if a1 = 0 then (
fX9_type_L48 a1 a2 (23 : Int32) (h.1 74 a1.toNatClampNeg) h)
else (
if a1 = (1 : Int32) then (
fX9_type_L48 a1 a2 (40 : Int32) (h.1 74 a1.toNatClampNeg) h)
else (
fX9_type_L48 a1 a2 (71 : Int32) (h.1 74 a1.toNatClampNeg) h))))
else (
some ((-2 : Int32), h)))
else (
some ((-2 : Int32), h))
set_option maxRecDepth 100000 in
set_option maxHeartbeats 4000000 in
theorem sX9_type {g : fd_G} {hm : fd_H} {a1 : Int32} {a2 : Int32} {r : Int32 × fd_H} {h : fd_H} (hf : fX9_type a1 a2 h = some r) : fd_S g mX9_type 2 [.ref (g.2.2.2 + 73), .int a1, .int a2] fd_X0 (fd_mx hm h) (some (.int r.1)) fd_X0 (fd_mx hm r.2) 0 0 := by
  refine fd_S.of (by decide +kernel) (Nat.le_of_ble_eq_true rfl) ?_
  unfold fX9_type at hf
  refine fr_loc (lv' := [(0, .ref (g.2.2.2 + 73)), (1, .int a1), (2, .int a2)]) [0, 1, 2] rfl ?_
  refine fr_iload_n (pc := 0) dX9_type_0 1 rfl rfl ?_
  obtain ⟨r2, hc1, hf⟩ := fd_bi hf
  refine fr_callSz (pc := 1) (av := [.int a1]) dX9_type_1 yy_X9_isText kw_239 rfl rfl (Nat.le_of_ble_eq_true rfl) ⟨Nat.le_of_ble_eq_true rfl, Nat.le_of_ble_eq_true rfl, Nat.zero_le _, Nat.zero_le _⟩ (sX9_isText hc1) ?_
  refine fr_bz (pc := 4) 18 dX9_type_4 (by decide) (fun c3 => ?_) (fun c3 => ?_)
  · have hf := fd_f c3 hf
    refine fr_bipush (pc := 18) (v := (-2 : Int32)) dX9_type_18 (by decide) ?_
    exact vm_iretW (x := (-2 : Int32)) (pc := 20) dX9_type_20 rfl hf
  · have hf := fd_t c3 hf
    refine fr_iload_n (pc := 7) dX9_type_7 2 rfl rfl ?_
    refine fr_iconst (pc := 8) (v := (0 : Int32)) dX9_type_8 (by decide) ?_
    refine fr_sipush (pc := 9) (v := (255 : Int32)) dX9_type_9 (by decide) ?_
    obtain ⟨r5, hc4, hf⟩ := fd_bi hf
    refine fr_callSz (pc := 12) (av := [.int a2, .int (0 : Int32), .int (255 : Int32)]) dX9_type_12 yy_X9_in kw_148 rfl rfl (Nat.le_of_ble_eq_true rfl) ⟨Nat.le_of_ble_eq_true rfl, Nat.le_of_ble_eq_true rfl, Nat.zero_le _, Nat.zero_le _⟩ (sX9_in hc4) ?_
    refine fr_bn (pc := 15) 21 dX9_type_15 (by decide) (fun c6 => ?_) (fun c6 => ?_)
    · have hf := fd_t c6 hf
      refine fr_aload_n (pc := 21) dX9_type_21 0 rfl rfl ?_
      refine fr_getR (pc := 22) dX9_type_22 fl_X9_7 (by decide) rfl rfl ?_
      refine fr_iload_n (pc := 25) dX9_type_25 1 rfl rfl ?_
      obtain ⟨g7, hf⟩ := fd_g_e hf
      refine vm_iald (pc := 26) dX9_type_26 (by decide) (by decide) rfl g7 ?_
      refine fr_iload_n (pc := 27) dX9_type_27 1 rfl rfl ?_
      refine fr_if_ne (pc := 28) 36 dX9_type_28 (by decide) (fun c8 => ?_) (fun c8 => ?_)
      · have hf := fd_f c8 hf
        refine fr_iload_n (pc := 36) dX9_type_36 1 rfl rfl ?_
        refine fr_iconst (pc := 37) (v := (1 : Int32)) dX9_type_37 (by decide) ?_
        refine fr_icmp_ne (pc := 38) 46 dX9_type_38 (by decide) (fun c9 => ?_) (fun c9 => ?_)
        · have hf := fd_f c9 hf
          refine fr_bipush (pc := 46) (v := (71 : Int32)) dX9_type_46 (by decide) ?_
          refine fr_loc (lv' := [(0, .ref (g.2.2.2 + 73)), (1, .int a1), (2, .int a2)]) [0, 1, 2] rfl ?_
          exact sX9_type_L48  _ _ _ hf
        · have hf := fd_t c9 hf
          refine fr_bipush (pc := 41) (v := (40 : Int32)) dX9_type_41 (by decide) ?_
          refine fr_goto (pc := 43) 48 dX9_type_43 (by decide) ?_
          refine fr_loc (lv' := [(0, .ref (g.2.2.2 + 73)), (1, .int a1), (2, .int a2)]) [0, 1, 2] rfl ?_
          exact sX9_type_L48  _ _ _ hf
      · have hf := fd_t c8 hf
        refine fr_bipush (pc := 31) (v := (23 : Int32)) dX9_type_31 (by decide) ?_
        refine fr_goto (pc := 33) 48 dX9_type_33 (by decide) ?_
        refine fr_loc (lv' := [(0, .ref (g.2.2.2 + 73)), (1, .int a1), (2, .int a2)]) [0, 1, 2] rfl ?_
        exact sX9_type_L48  _ _ _ hf
    · have hf := fd_f c6 hf
      refine fr_bipush (pc := 18) (v := (-2 : Int32)) dX9_type_18 (by decide) ?_
      exact vm_iretW (x := (-2 : Int32)) (pc := 20) dX9_type_20 rfl hf
theorem dX9_wipe_0 : decode cX9_wipe 0 = .ok (.iload_n 1, 1) := by decide +kernel
theorem dX9_wipe_1 : decode cX9_wipe 1 = .ok (.invokestatic 93, 3) := by decide +kernel
theorem dX9_wipe_4 : decode cX9_wipe 4 = .ok (.ifCond .ne 6, 3) := by decide +kernel
theorem dX9_wipe_7 : decode cX9_wipe 7 = .ok (.bipush (-2), 2) := by decide +kernel
theorem dX9_wipe_9 : decode cX9_wipe 9 = .ok (.ireturn, 1) := by decide +kernel
theorem dX9_wipe_10 : decode cX9_wipe 10 = .ok (.aload_n 0, 1) := by decide +kernel
theorem dX9_wipe_11 : decode cX9_wipe 11 = .ok (.getfield 7, 3) := by decide +kernel
theorem dX9_wipe_14 : decode cX9_wipe 14 = .ok (.iload_n 1, 1) := by decide +kernel
theorem dX9_wipe_15 : decode cX9_wipe 15 = .ok (.iaload, 1) := by decide +kernel
theorem dX9_wipe_16 : decode cX9_wipe 16 = .ok (.istore_n 2, 1) := by decide +kernel
theorem dX9_wipe_17 : decode cX9_wipe 17 = .ok (.aload_n 0, 1) := by decide +kernel
theorem dX9_wipe_18 : decode cX9_wipe 18 = .ok (.getfield 7, 3) := by decide +kernel
theorem dX9_wipe_21 : decode cX9_wipe 21 = .ok (.iload_n 1, 1) := by decide +kernel
theorem dX9_wipe_22 : decode cX9_wipe 22 = .ok (.iconst 0, 1) := by decide +kernel
theorem dX9_wipe_23 : decode cX9_wipe 23 = .ok (.iastore, 1) := by decide +kernel
theorem dX9_wipe_24 : decode cX9_wipe 24 = .ok (.iload_n 2, 1) := by decide +kernel
theorem dX9_wipe_25 : decode cX9_wipe 25 = .ok (.ireturn, 1) := by decide +kernel
def fX9_wipe (a1 : Int32) (h : fd_H) : Option (Int32 × fd_H) :=
(fX9_isText a1).bind fun r2 =>
if r2 = true then (
fd_g (fd_in a1 3) (
fd_lt ((h.1 74 a1.toNatClampNeg)) fun x5 =>
fd_g (fd_in a1 3) (
fd_lt (fd_ui h 74 a1.toNatClampNeg (0 : Int32)) fun h7 =>
some (x5, h7))))
else (
some ((-2 : Int32), h))
set_option maxRecDepth 100000 in
set_option maxHeartbeats 4000000 in
theorem sX9_wipe {g : fd_G} {hm : fd_H} {a1 : Int32} {r : Int32 × fd_H} {h : fd_H} (hf : fX9_wipe a1 h = some r) : fd_S g mX9_wipe 2 [.ref (g.2.2.2 + 73), .int a1] fd_X0 (fd_mx hm h) (some (.int r.1)) fd_X0 (fd_mx hm r.2) 0 0 := by
  refine fd_S.of (by decide +kernel) (Nat.le_of_ble_eq_true rfl) ?_
  unfold fX9_wipe at hf
  refine fr_loc (lv' := [(0, .ref (g.2.2.2 + 73)), (1, .int a1)]) [0, 1] rfl ?_
  refine fr_iload_n (pc := 0) dX9_wipe_0 1 rfl rfl ?_
  obtain ⟨r2, hc1, hf⟩ := fd_bi hf
  refine fr_callSz (pc := 1) (av := [.int a1]) dX9_wipe_1 yy_X9_isText kw_239 rfl rfl (Nat.le_of_ble_eq_true rfl) ⟨Nat.le_of_ble_eq_true rfl, Nat.le_of_ble_eq_true rfl, Nat.zero_le _, Nat.zero_le _⟩ (sX9_isText hc1) ?_
  refine fr_bn (pc := 4) 10 dX9_wipe_4 (by decide) (fun c3 => ?_) (fun c3 => ?_)
  · have hf := fd_t c3 hf
    refine fr_aload_n (pc := 10) dX9_wipe_10 0 rfl rfl ?_
    refine fr_getR (pc := 11) dX9_wipe_11 fl_X9_7 (by decide) rfl rfl ?_
    refine fr_iload_n (pc := 14) dX9_wipe_14 1 rfl rfl ?_
    obtain ⟨g4, hf⟩ := fd_g_e hf
    refine vm_iald (pc := 15) dX9_wipe_15 (by decide) (by decide) rfl g4 ?_
    obtain ⟨x5, ex5, hf⟩ := fd_lt_e hf
    refine fr_nmi ex5 ?_
    refine fr_istore_n (pc := 16) (lv' := [(2, .int x5), (0, .ref (g.2.2.2 + 73)), (1, .int a1)]) dX9_wipe_16 rfl (by decide) rfl ?_
    refine fr_aload_n (pc := 17) dX9_wipe_17 1 rfl rfl ?_
    refine fr_getR (pc := 18) dX9_wipe_18 fl_X9_7 (by decide) rfl rfl ?_
    refine fr_iload_n (pc := 21) dX9_wipe_21 2 rfl rfl ?_
    refine fr_iconst (pc := 22) (v := (0 : Int32)) dX9_wipe_22 (by decide) ?_
    obtain ⟨g6, hf⟩ := fd_g_e hf
    obtain ⟨h7, eh7, hf⟩ := fd_lt_e hf
    refine vm_iast (pc := 23) dX9_wipe_23 (by decide) (by decide) rfl g6 eh7 ?_
    refine fr_iload_n (pc := 24) dX9_wipe_24 0 rfl rfl ?_
    exact vm_iretW (x := x5) (pc := 25) dX9_wipe_25 rfl hf
  · have hf := fd_f c3 hf
    refine fr_bipush (pc := 7) (v := (-2 : Int32)) dX9_wipe_7 (by decide) ?_
    exact vm_iretW (x := (-2 : Int32)) (pc := 9) dX9_wipe_9 rfl hf
theorem dX9_undo_0 : decode cX9_undo 0 = .ok (.iload_n 1, 1) := by decide +kernel
theorem dX9_undo_1 : decode cX9_undo 1 = .ok (.invokestatic 93, 3) := by decide +kernel
theorem dX9_undo_4 : decode cX9_undo 4 = .ok (.ifCond .ne 6, 3) := by decide +kernel
theorem dX9_undo_7 : decode cX9_undo 7 = .ok (.bipush (-2), 2) := by decide +kernel
theorem dX9_undo_9 : decode cX9_undo 9 = .ok (.ireturn, 1) := by decide +kernel
theorem dX9_undo_10 : decode cX9_undo 10 = .ok (.aload_n 0, 1) := by decide +kernel
theorem dX9_undo_11 : decode cX9_undo 11 = .ok (.getfield 7, 3) := by decide +kernel
theorem dX9_undo_14 : decode cX9_undo 14 = .ok (.iload_n 1, 1) := by decide +kernel
theorem dX9_undo_15 : decode cX9_undo 15 = .ok (.iaload, 1) := by decide +kernel
theorem dX9_undo_16 : decode cX9_undo 16 = .ok (.ifCond .ne 6, 3) := by decide +kernel
theorem dX9_undo_19 : decode cX9_undo 19 = .ok (.bipush (-3), 2) := by decide +kernel
theorem dX9_undo_21 : decode cX9_undo 21 = .ok (.ireturn, 1) := by decide +kernel
theorem dX9_undo_22 : decode cX9_undo 22 = .ok (.aload_n 0, 1) := by decide +kernel
theorem dX9_undo_23 : decode cX9_undo 23 = .ok (.getfield 7, 3) := by decide +kernel
theorem dX9_undo_26 : decode cX9_undo 26 = .ok (.iload_n 1, 1) := by decide +kernel
theorem dX9_undo_27 : decode cX9_undo 27 = .ok (.dup2, 1) := by decide +kernel
theorem dX9_undo_28 : decode cX9_undo 28 = .ok (.iaload, 1) := by decide +kernel
theorem dX9_undo_29 : decode cX9_undo 29 = .ok (.iconst 1, 1) := by decide +kernel
theorem dX9_undo_30 : decode cX9_undo 30 = .ok (.isub, 1) := by decide +kernel
theorem dX9_undo_31 : decode cX9_undo 31 = .ok (.iastore, 1) := by decide +kernel
theorem dX9_undo_32 : decode cX9_undo 32 = .ok (.aload_n 0, 1) := by decide +kernel
theorem dX9_undo_33 : decode cX9_undo 33 = .ok (.getfield 7, 3) := by decide +kernel
theorem dX9_undo_36 : decode cX9_undo 36 = .ok (.iload_n 1, 1) := by decide +kernel
theorem dX9_undo_37 : decode cX9_undo 37 = .ok (.iaload, 1) := by decide +kernel
theorem dX9_undo_38 : decode cX9_undo 38 = .ok (.ireturn, 1) := by decide +kernel
def fX9_undo (a1 : Int32) (h : fd_H) : Option (Int32 × fd_H) :=
(fX9_isText a1).bind fun r2 =>
if r2 = true then (
fd_g (fd_in a1 3) (
if (h.1 74 a1.toNatClampNeg) = 0 then (
some ((-3 : Int32), h))
else (
fd_g (fd_in a1 3) (
fd_g (fd_in a1 3) (
fd_lt (fd_ui h 74 a1.toNatClampNeg ((h.1 74 a1.toNatClampNeg) - (1 : Int32))) fun h8 =>
fd_g (fd_in a1 3) (
some ((h8.1 74 a1.toNatClampNeg), h8)))))))
else (
some ((-2 : Int32), h))
set_option maxRecDepth 100000 in
set_option maxHeartbeats 4000000 in
theorem sX9_undo {g : fd_G} {hm : fd_H} {a1 : Int32} {r : Int32 × fd_H} {h : fd_H} (hf : fX9_undo a1 h = some r) : fd_S g mX9_undo 2 [.ref (g.2.2.2 + 73), .int a1] fd_X0 (fd_mx hm h) (some (.int r.1)) fd_X0 (fd_mx hm r.2) 0 0 := by
  refine fd_S.of (by decide +kernel) (Nat.le_of_ble_eq_true rfl) ?_
  unfold fX9_undo at hf
  refine fr_loc (lv' := [(0, .ref (g.2.2.2 + 73)), (1, .int a1)]) [0, 1] rfl ?_
  refine fr_iload_n (pc := 0) dX9_undo_0 1 rfl rfl ?_
  obtain ⟨r2, hc1, hf⟩ := fd_bi hf
  refine fr_callSz (pc := 1) (av := [.int a1]) dX9_undo_1 yy_X9_isText kw_239 rfl rfl (Nat.le_of_ble_eq_true rfl) ⟨Nat.le_of_ble_eq_true rfl, Nat.le_of_ble_eq_true rfl, Nat.zero_le _, Nat.zero_le _⟩ (sX9_isText hc1) ?_
  refine fr_bn (pc := 4) 10 dX9_undo_4 (by decide) (fun c3 => ?_) (fun c3 => ?_)
  · have hf := fd_t c3 hf
    refine fr_aload_n (pc := 10) dX9_undo_10 0 rfl rfl ?_
    refine fr_getR (pc := 11) dX9_undo_11 fl_X9_7 (by decide) rfl rfl ?_
    refine fr_iload_n (pc := 14) dX9_undo_14 1 rfl rfl ?_
    obtain ⟨g4, hf⟩ := fd_g_e hf
    refine vm_iald (pc := 15) dX9_undo_15 (by decide) (by decide) rfl g4 ?_
    refine fr_if_ne (pc := 16) 22 dX9_undo_16 (by decide) (fun c5 => ?_) (fun c5 => ?_)
    · have hf := fd_f c5 hf
      refine fr_aload_n (pc := 22) dX9_undo_22 0 rfl rfl ?_
      refine fr_getR (pc := 23) dX9_undo_23 fl_X9_7 (by decide) rfl rfl ?_
      refine fr_iload_n (pc := 26) dX9_undo_26 1 rfl rfl ?_
      refine fr_dup2 (pc := 27) dX9_undo_27 rfl rfl ?_
      obtain ⟨g6, hf⟩ := fd_g_e hf
      refine vm_iald (pc := 28) dX9_undo_28 (by decide) (by decide) rfl g6 ?_
      refine fr_iconst (pc := 29) (v := (1 : Int32)) dX9_undo_29 (by decide) ?_
      refine fr_isub (pc := 30) dX9_undo_30 ?_
      obtain ⟨g7, hf⟩ := fd_g_e hf
      obtain ⟨h8, eh8, hf⟩ := fd_lt_e hf
      refine vm_iast (pc := 31) dX9_undo_31 (by decide) (by decide) rfl g7 eh8 ?_
      refine fr_aload_n (pc := 32) dX9_undo_32 0 rfl rfl ?_
      refine fr_getR (pc := 33) dX9_undo_33 fl_X9_7 (by decide) rfl rfl ?_
      refine fr_iload_n (pc := 36) dX9_undo_36 1 rfl rfl ?_
      obtain ⟨g9, hf⟩ := fd_g_e hf
      refine vm_iald (pc := 37) dX9_undo_37 (by decide) (by decide) rfl g9 ?_
      exact vm_iretW (x := (h8.1 74 a1.toNatClampNeg)) (pc := 38) dX9_undo_38 rfl hf
    · have hf := fd_t c5 hf
      refine fr_bipush (pc := 19) (v := (-3 : Int32)) dX9_undo_19 (by decide) ?_
      exact vm_iretW (x := (-3 : Int32)) (pc := 21) dX9_undo_21 rfl hf
  · have hf := fd_f c3 hf
    refine fr_bipush (pc := 7) (v := (-2 : Int32)) dX9_undo_7 (by decide) ?_
    exact vm_iretW (x := (-2 : Int32)) (pc := 9) dX9_undo_9 rfl hf
theorem dX9_readsDebt_0 : decode cX9_readsDebt 0 = .ok (.iconst 0, 1) := by decide +kernel
theorem dX9_readsDebt_1 : decode cX9_readsDebt 1 = .ok (.istore_n 3, 1) := by decide +kernel
theorem dX9_readsDebt_2 : decode cX9_readsDebt 2 = .ok (.iload_n 3, 1) := by decide +kernel
theorem dX9_readsDebt_3 : decode cX9_readsDebt 3 = .ok (.bipush 7, 2) := by decide +kernel
theorem dX9_readsDebt_5 : decode cX9_readsDebt 5 = .ok (.if_icmp .ge 20, 3) := by decide +kernel
theorem dX9_readsDebt_8 : decode cX9_readsDebt 8 = .ok (.aload_n 0, 1) := by decide +kernel
theorem dX9_readsDebt_9 : decode cX9_readsDebt 9 = .ok (.iload_n 2, 1) := by decide +kernel
theorem dX9_readsDebt_10 : decode cX9_readsDebt 10 = .ok (.iload_n 3, 1) := by decide +kernel
theorem dX9_readsDebt_11 : decode cX9_readsDebt 11 = .ok (.invokevirtual 101, 3) := by decide +kernel
theorem dX9_readsDebt_14 : decode cX9_readsDebt 14 = .ok (.ifCond .ne 5, 3) := by decide +kernel
theorem dX9_readsDebt_17 : decode cX9_readsDebt 17 = .ok (.iload_n 3, 1) := by decide +kernel
theorem dX9_readsDebt_18 : decode cX9_readsDebt 18 = .ok (.ireturn, 1) := by decide +kernel
theorem dX9_readsDebt_19 : decode cX9_readsDebt 19 = .ok (.iinc 3 1, 3) := by decide +kernel
theorem dX9_readsDebt_22 : decode cX9_readsDebt 22 = .ok (.goto (-20), 3) := by decide +kernel
theorem dX9_readsDebt_25 : decode cX9_readsDebt 25 = .ok (.aload_n 0, 1) := by decide +kernel
theorem dX9_readsDebt_26 : decode cX9_readsDebt 26 = .ok (.getfield 25, 3) := by decide +kernel
theorem dX9_readsDebt_29 : decode cX9_readsDebt 29 = .ok (.iload_n 1, 1) := by decide +kernel
theorem dX9_readsDebt_30 : decode cX9_readsDebt 30 = .ok (.aload_n 0, 1) := by decide +kernel
theorem dX9_readsDebt_31 : decode cX9_readsDebt 31 = .ok (.iconst 2, 1) := by decide +kernel
theorem dX9_readsDebt_32 : decode cX9_readsDebt 32 = .ok (.iload_n 2, 1) := by decide +kernel
theorem dX9_readsDebt_33 : decode cX9_readsDebt 33 = .ok (.invokevirtual 97, 3) := by decide +kernel
theorem dX9_readsDebt_36 : decode cX9_readsDebt 36 = .ok (.bipush 97, 2) := by decide +kernel
theorem dX9_readsDebt_38 : decode cX9_readsDebt 38 = .ok (.isub, 1) := by decide +kernel
theorem dX9_readsDebt_39 : decode cX9_readsDebt 39 = .ok (.iastore, 1) := by decide +kernel
theorem dX9_readsDebt_40 : decode cX9_readsDebt 40 = .ok (.aload_n 0, 1) := by decide +kernel
theorem dX9_readsDebt_41 : decode cX9_readsDebt 41 = .ok (.getfield 28, 3) := by decide +kernel
theorem dX9_readsDebt_44 : decode cX9_readsDebt 44 = .ok (.iload_n 1, 1) := by decide +kernel
theorem dX9_readsDebt_45 : decode cX9_readsDebt 45 = .ok (.aload_n 0, 1) := by decide +kernel
theorem dX9_readsDebt_46 : decode cX9_readsDebt 46 = .ok (.iconst 2, 1) := by decide +kernel
theorem dX9_readsDebt_47 : decode cX9_readsDebt 47 = .ok (.iload_n 2, 1) := by decide +kernel
theorem dX9_readsDebt_48 : decode cX9_readsDebt 48 = .ok (.iconst 1, 1) := by decide +kernel
theorem dX9_readsDebt_49 : decode cX9_readsDebt 49 = .ok (.iadd, 1) := by decide +kernel
theorem dX9_readsDebt_50 : decode cX9_readsDebt 50 = .ok (.invokevirtual 97, 3) := by decide +kernel
theorem dX9_readsDebt_53 : decode cX9_readsDebt 53 = .ok (.bipush 97, 2) := by decide +kernel
theorem dX9_readsDebt_55 : decode cX9_readsDebt 55 = .ok (.isub, 1) := by decide +kernel
theorem dX9_readsDebt_56 : decode cX9_readsDebt 56 = .ok (.iastore, 1) := by decide +kernel
theorem dX9_readsDebt_57 : decode cX9_readsDebt 57 = .ok (.aload_n 0, 1) := by decide +kernel
theorem dX9_readsDebt_58 : decode cX9_readsDebt 58 = .ok (.getfield 31, 3) := by decide +kernel
theorem dX9_readsDebt_61 : decode cX9_readsDebt 61 = .ok (.iload_n 1, 1) := by decide +kernel
theorem dX9_readsDebt_62 : decode cX9_readsDebt 62 = .ok (.bipush 10, 2) := by decide +kernel
theorem dX9_readsDebt_64 : decode cX9_readsDebt 64 = .ok (.aload_n 0, 1) := by decide +kernel
theorem dX9_readsDebt_65 : decode cX9_readsDebt 65 = .ok (.iconst 2, 1) := by decide +kernel
theorem dX9_readsDebt_66 : decode cX9_readsDebt 66 = .ok (.iload_n 2, 1) := by decide +kernel
theorem dX9_readsDebt_67 : decode cX9_readsDebt 67 = .ok (.iconst 2, 1) := by decide +kernel
theorem dX9_readsDebt_68 : decode cX9_readsDebt 68 = .ok (.iadd, 1) := by decide +kernel
theorem dX9_readsDebt_69 : decode cX9_readsDebt 69 = .ok (.invokevirtual 97, 3) := by decide +kernel
theorem dX9_readsDebt_72 : decode cX9_readsDebt 72 = .ok (.bipush 48, 2) := by decide +kernel
theorem dX9_readsDebt_74 : decode cX9_readsDebt 74 = .ok (.isub, 1) := by decide +kernel
theorem dX9_readsDebt_75 : decode cX9_readsDebt 75 = .ok (.imul, 1) := by decide +kernel
theorem dX9_readsDebt_76 : decode cX9_readsDebt 76 = .ok (.aload_n 0, 1) := by decide +kernel
theorem dX9_readsDebt_77 : decode cX9_readsDebt 77 = .ok (.iconst 2, 1) := by decide +kernel
theorem dX9_readsDebt_78 : decode cX9_readsDebt 78 = .ok (.iload_n 2, 1) := by decide +kernel
theorem dX9_readsDebt_79 : decode cX9_readsDebt 79 = .ok (.iconst 3, 1) := by decide +kernel
theorem dX9_readsDebt_80 : decode cX9_readsDebt 80 = .ok (.iadd, 1) := by decide +kernel
theorem dX9_readsDebt_81 : decode cX9_readsDebt 81 = .ok (.invokevirtual 97, 3) := by decide +kernel
theorem dX9_readsDebt_84 : decode cX9_readsDebt 84 = .ok (.iadd, 1) := by decide +kernel
theorem dX9_readsDebt_85 : decode cX9_readsDebt 85 = .ok (.bipush 48, 2) := by decide +kernel
theorem dX9_readsDebt_87 : decode cX9_readsDebt 87 = .ok (.isub, 1) := by decide +kernel
theorem dX9_readsDebt_88 : decode cX9_readsDebt 88 = .ok (.iastore, 1) := by decide +kernel
theorem dX9_readsDebt_89 : decode cX9_readsDebt 89 = .ok (.aload_n 0, 1) := by decide +kernel
theorem dX9_readsDebt_90 : decode cX9_readsDebt 90 = .ok (.getfield 34, 3) := by decide +kernel
theorem dX9_readsDebt_93 : decode cX9_readsDebt 93 = .ok (.iload_n 1, 1) := by decide +kernel
theorem dX9_readsDebt_94 : decode cX9_readsDebt 94 = .ok (.aload_n 0, 1) := by decide +kernel
theorem dX9_readsDebt_95 : decode cX9_readsDebt 95 = .ok (.iconst 2, 1) := by decide +kernel
theorem dX9_readsDebt_96 : decode cX9_readsDebt 96 = .ok (.iload_n 2, 1) := by decide +kernel
theorem dX9_readsDebt_97 : decode cX9_readsDebt 97 = .ok (.iconst 4, 1) := by decide +kernel
theorem dX9_readsDebt_98 : decode cX9_readsDebt 98 = .ok (.iadd, 1) := by decide +kernel
theorem dX9_readsDebt_99 : decode cX9_readsDebt 99 = .ok (.invokevirtual 97, 3) := by decide +kernel
theorem dX9_readsDebt_102 : decode cX9_readsDebt 102 = .ok (.bipush 48, 2) := by decide +kernel
theorem dX9_readsDebt_104 : decode cX9_readsDebt 104 = .ok (.isub, 1) := by decide +kernel
theorem dX9_readsDebt_105 : decode cX9_readsDebt 105 = .ok (.iastore, 1) := by decide +kernel
theorem dX9_readsDebt_106 : decode cX9_readsDebt 106 = .ok (.aload_n 0, 1) := by decide +kernel
theorem dX9_readsDebt_107 : decode cX9_readsDebt 107 = .ok (.getfield 37, 3) := by decide +kernel
theorem dX9_readsDebt_110 : decode cX9_readsDebt 110 = .ok (.iload_n 1, 1) := by decide +kernel
theorem dX9_readsDebt_111 : decode cX9_readsDebt 111 = .ok (.bipush 10, 2) := by decide +kernel
theorem dX9_readsDebt_113 : decode cX9_readsDebt 113 = .ok (.aload_n 0, 1) := by decide +kernel
theorem dX9_readsDebt_114 : decode cX9_readsDebt 114 = .ok (.iconst 2, 1) := by decide +kernel
theorem dX9_readsDebt_115 : decode cX9_readsDebt 115 = .ok (.iload_n 2, 1) := by decide +kernel
theorem dX9_readsDebt_116 : decode cX9_readsDebt 116 = .ok (.iconst 5, 1) := by decide +kernel
theorem dX9_readsDebt_117 : decode cX9_readsDebt 117 = .ok (.iadd, 1) := by decide +kernel
theorem dX9_readsDebt_118 : decode cX9_readsDebt 118 = .ok (.invokevirtual 97, 3) := by decide +kernel
theorem dX9_readsDebt_121 : decode cX9_readsDebt 121 = .ok (.bipush 48, 2) := by decide +kernel
theorem dX9_readsDebt_123 : decode cX9_readsDebt 123 = .ok (.isub, 1) := by decide +kernel
theorem dX9_readsDebt_124 : decode cX9_readsDebt 124 = .ok (.imul, 1) := by decide +kernel
theorem dX9_readsDebt_125 : decode cX9_readsDebt 125 = .ok (.aload_n 0, 1) := by decide +kernel
theorem dX9_readsDebt_126 : decode cX9_readsDebt 126 = .ok (.iconst 2, 1) := by decide +kernel
theorem dX9_readsDebt_127 : decode cX9_readsDebt 127 = .ok (.iload_n 2, 1) := by decide +kernel
theorem dX9_readsDebt_128 : decode cX9_readsDebt 128 = .ok (.bipush 6, 2) := by decide +kernel
theorem dX9_readsDebt_130 : decode cX9_readsDebt 130 = .ok (.iadd, 1) := by decide +kernel
theorem dX9_readsDebt_131 : decode cX9_readsDebt 131 = .ok (.invokevirtual 97, 3) := by decide +kernel
theorem dX9_readsDebt_134 : decode cX9_readsDebt 134 = .ok (.iadd, 1) := by decide +kernel
theorem dX9_readsDebt_135 : decode cX9_readsDebt 135 = .ok (.bipush 48, 2) := by decide +kernel
theorem dX9_readsDebt_137 : decode cX9_readsDebt 137 = .ok (.isub, 1) := by decide +kernel
theorem dX9_readsDebt_138 : decode cX9_readsDebt 138 = .ok (.iastore, 1) := by decide +kernel
theorem dX9_readsDebt_139 : decode cX9_readsDebt 139 = .ok (.bipush 7, 2) := by decide +kernel
theorem dX9_readsDebt_141 : decode cX9_readsDebt 141 = .ok (.ireturn, 1) := by decide +kernel
def fX9_readsDebt_L2 (a1 : Int32) (a2 : Int32) : Nat → Int32 → fd_H → Option (Int32 × fd_H)
  | 0 => fun _ _ => none
  | n + 1 => fun v3 h =>
if (7 : Int32) ≤ v3 then (
(fX9_byteAt (2 : Int32) a2 h).bind fun r3 =>
fd_g (fd_in a1 10) (
fd_lt (fd_ui h 79 a1.toNatClampNeg (r3 - (97 : Int32))) fun h5 =>
(fX9_byteAt (2 : Int32) (a2 + (1 : Int32)) h5).bind fun r7 =>
fd_g (fd_in a1 10) (
fd_lt (fd_ui h5 80 a1.toNatClampNeg (r7 - (97 : Int32))) fun h9 =>
(fX9_byteAt (2 : Int32) (a2 + (2 : Int32)) h9).bind fun r11 =>
(fX9_byteAt (2 : Int32) (a2 + (3 : Int32)) h9).bind fun r13 =>
fd_g (fd_in a1 10) (
fd_lt (fd_ui h9 81 a1.toNatClampNeg ((((10 : Int32) * (r11 - (48 : Int32))) + r13) - (48 : Int32))) fun h15 =>
(fX9_byteAt (2 : Int32) (a2 + (4 : Int32)) h15).bind fun r17 =>
fd_g (fd_in a1 10) (
fd_lt (fd_ui h15 82 a1.toNatClampNeg (r17 - (48 : Int32))) fun h19 =>
(fX9_byteAt (2 : Int32) (a2 + (5 : Int32)) h19).bind fun r21 =>
(fX9_byteAt (2 : Int32) (a2 + (6 : Int32)) h19).bind fun r23 =>
fd_g (fd_in a1 10) (
fd_lt (fd_ui h19 83 a1.toNatClampNeg ((((10 : Int32) * (r21 - (48 : Int32))) + r23) - (48 : Int32))) fun h25 =>
some ((7 : Int32), h25)))))))
else (
(fX9_isWell a2 v3 h).bind fun r27 =>
if r27 = true then (
fX9_readsDebt_L2 a1 a2 n (v3 + (1 : Int32)) h)
else (
some (v3, h)))
set_option maxRecDepth 100000 in
set_option maxHeartbeats 4000000 in
theorem sX9_readsDebt_L2 {g : fd_G} {hm : fd_H} {a1 : Int32} {a2 : Int32} {r : Int32 × fd_H} : ∀ (n : Nat) (v3 : Int32) (h : fd_H), fX9_readsDebt_L2 a1 a2 n v3 h = some r → fd_A g mX9_readsDebt fd_E (fd_rm 2 0 0) (fd_Q g (some (.int r.1)) fd_X0 (fd_mx hm r.2) 0 0) 2 [(0, .ref (g.2.2.2 + 73)), (1, .int a1), (2, .int a2), (3, .int v3)] [] fd_X0 (fd_mx hm h) 0 0 := by
  intro n
  induction n with
  | zero =>
    intro _ _ hf
    cases hf
  | succ n ih =>
    intro v3 h hf
    rw [fX9_readsDebt_L2] at hf
    refine fr_iload_n (pc := 2) dX9_readsDebt_2 3 rfl rfl ?_
    refine fr_bipush (pc := 3) (v := (7 : Int32)) dX9_readsDebt_3 (by decide) ?_
    refine fr_icmp_ge (pc := 5) 25 dX9_readsDebt_5 (by decide) (fun c1 => ?_) (fun c1 => ?_)
    · have hf := fd_t c1 hf
      refine fr_aload_n (pc := 25) dX9_readsDebt_25 0 rfl rfl ?_
      refine fr_getR (pc := 26) dX9_readsDebt_26 fl_X9_25 (by decide) rfl rfl ?_
      refine fr_iload_n (pc := 29) dX9_readsDebt_29 1 rfl rfl ?_
      refine fr_aload_n (pc := 30) dX9_readsDebt_30 0 rfl rfl ?_
      refine fr_iconst (pc := 31) (v := (2 : Int32)) dX9_readsDebt_31 (by decide) ?_
      refine fr_iload_n (pc := 32) dX9_readsDebt_32 2 rfl rfl ?_
      obtain ⟨r3, hc2, hf⟩ := fd_bi hf
      refine fr_callVi (pc := 33) (av := [.int (2 : Int32), .int a2]) dX9_readsDebt_33 yy_X9_byteAt kw_152 (by decide) rfl rfl rfl rfl (Nat.le_of_ble_eq_true rfl) ⟨Nat.le_of_ble_eq_true rfl, Nat.le_of_ble_eq_true rfl, Nat.zero_le _, Nat.zero_le _⟩ (sX9_byteAt hc2) ?_
      refine fr_bipush (pc := 36) (v := (97 : Int32)) dX9_readsDebt_36 (by decide) ?_
      refine fr_isub (pc := 38) dX9_readsDebt_38 ?_
      obtain ⟨g4, hf⟩ := fd_g_e hf
      obtain ⟨h5, eh5, hf⟩ := fd_lt_e hf
      refine vm_iast (pc := 39) dX9_readsDebt_39 (by decide) (by decide) rfl g4 eh5 ?_
      refine fr_aload_n (pc := 40) dX9_readsDebt_40 0 rfl rfl ?_
      refine fr_getR (pc := 41) dX9_readsDebt_41 fl_X9_28 (by decide) rfl rfl ?_
      refine fr_iload_n (pc := 44) dX9_readsDebt_44 1 rfl rfl ?_
      refine fr_aload_n (pc := 45) dX9_readsDebt_45 0 rfl rfl ?_
      refine fr_iconst (pc := 46) (v := (2 : Int32)) dX9_readsDebt_46 (by decide) ?_
      refine fr_iload_n (pc := 47) dX9_readsDebt_47 2 rfl rfl ?_
      refine fr_iconst (pc := 48) (v := (1 : Int32)) dX9_readsDebt_48 (by decide) ?_
      refine fr_iadd (pc := 49) dX9_readsDebt_49 ?_
      obtain ⟨r7, hc6, hf⟩ := fd_bi hf
      refine fr_callVi (pc := 50) (av := [.int (2 : Int32), .int (a2 + (1 : Int32))]) dX9_readsDebt_50 yy_X9_byteAt kw_152 (by decide) rfl rfl rfl rfl (Nat.le_of_ble_eq_true rfl) ⟨Nat.le_of_ble_eq_true rfl, Nat.le_of_ble_eq_true rfl, Nat.zero_le _, Nat.zero_le _⟩ (sX9_byteAt hc6) ?_
      refine fr_bipush (pc := 53) (v := (97 : Int32)) dX9_readsDebt_53 (by decide) ?_
      refine fr_isub (pc := 55) dX9_readsDebt_55 ?_
      obtain ⟨g8, hf⟩ := fd_g_e hf
      obtain ⟨h9, eh9, hf⟩ := fd_lt_e hf
      refine vm_iast (pc := 56) dX9_readsDebt_56 (by decide) (by decide) rfl g8 eh9 ?_
      refine fr_aload_n (pc := 57) dX9_readsDebt_57 0 rfl rfl ?_
      refine fr_getR (pc := 58) dX9_readsDebt_58 fl_X9_31 (by decide) rfl rfl ?_
      refine fr_iload_n (pc := 61) dX9_readsDebt_61 1 rfl rfl ?_
      refine fr_bipush (pc := 62) (v := (10 : Int32)) dX9_readsDebt_62 (by decide) ?_
      refine fr_aload_n (pc := 64) dX9_readsDebt_64 0 rfl rfl ?_
      refine fr_iconst (pc := 65) (v := (2 : Int32)) dX9_readsDebt_65 (by decide) ?_
      refine fr_iload_n (pc := 66) dX9_readsDebt_66 2 rfl rfl ?_
      refine fr_iconst (pc := 67) (v := (2 : Int32)) dX9_readsDebt_67 (by decide) ?_
      refine fr_iadd (pc := 68) dX9_readsDebt_68 ?_
      obtain ⟨r11, hc10, hf⟩ := fd_bi hf
      refine fr_callVi (pc := 69) (av := [.int (2 : Int32), .int (a2 + (2 : Int32))]) dX9_readsDebt_69 yy_X9_byteAt kw_152 (by decide) rfl rfl rfl rfl (Nat.le_of_ble_eq_true rfl) ⟨Nat.le_of_ble_eq_true rfl, Nat.le_of_ble_eq_true rfl, Nat.zero_le _, Nat.zero_le _⟩ (sX9_byteAt hc10) ?_
      refine fr_bipush (pc := 72) (v := (48 : Int32)) dX9_readsDebt_72 (by decide) ?_
      refine fr_isub (pc := 74) dX9_readsDebt_74 ?_
      refine fr_imul (pc := 75) dX9_readsDebt_75 ?_
      refine fr_aload_n (pc := 76) dX9_readsDebt_76 0 rfl rfl ?_
      refine fr_iconst (pc := 77) (v := (2 : Int32)) dX9_readsDebt_77 (by decide) ?_
      refine fr_iload_n (pc := 78) dX9_readsDebt_78 2 rfl rfl ?_
      refine fr_iconst (pc := 79) (v := (3 : Int32)) dX9_readsDebt_79 (by decide) ?_
      refine fr_iadd (pc := 80) dX9_readsDebt_80 ?_
      obtain ⟨r13, hc12, hf⟩ := fd_bi hf
      refine fr_callVi (pc := 81) (av := [.int (2 : Int32), .int (a2 + (3 : Int32))]) dX9_readsDebt_81 yy_X9_byteAt kw_152 (by decide) rfl rfl rfl rfl (Nat.le_of_ble_eq_true rfl) ⟨Nat.le_of_ble_eq_true rfl, Nat.le_of_ble_eq_true rfl, Nat.zero_le _, Nat.zero_le _⟩ (sX9_byteAt hc12) ?_
      refine fr_iadd (pc := 84) dX9_readsDebt_84 ?_
      refine fr_bipush (pc := 85) (v := (48 : Int32)) dX9_readsDebt_85 (by decide) ?_
      refine fr_isub (pc := 87) dX9_readsDebt_87 ?_
      obtain ⟨g14, hf⟩ := fd_g_e hf
      obtain ⟨h15, eh15, hf⟩ := fd_lt_e hf
      refine vm_iast (pc := 88) dX9_readsDebt_88 (by decide) (by decide) rfl g14 eh15 ?_
      refine fr_aload_n (pc := 89) dX9_readsDebt_89 0 rfl rfl ?_
      refine fr_getR (pc := 90) dX9_readsDebt_90 fl_X9_34 (by decide) rfl rfl ?_
      refine fr_iload_n (pc := 93) dX9_readsDebt_93 1 rfl rfl ?_
      refine fr_aload_n (pc := 94) dX9_readsDebt_94 0 rfl rfl ?_
      refine fr_iconst (pc := 95) (v := (2 : Int32)) dX9_readsDebt_95 (by decide) ?_
      refine fr_iload_n (pc := 96) dX9_readsDebt_96 2 rfl rfl ?_
      refine fr_iconst (pc := 97) (v := (4 : Int32)) dX9_readsDebt_97 (by decide) ?_
      refine fr_iadd (pc := 98) dX9_readsDebt_98 ?_
      obtain ⟨r17, hc16, hf⟩ := fd_bi hf
      refine fr_callVi (pc := 99) (av := [.int (2 : Int32), .int (a2 + (4 : Int32))]) dX9_readsDebt_99 yy_X9_byteAt kw_152 (by decide) rfl rfl rfl rfl (Nat.le_of_ble_eq_true rfl) ⟨Nat.le_of_ble_eq_true rfl, Nat.le_of_ble_eq_true rfl, Nat.zero_le _, Nat.zero_le _⟩ (sX9_byteAt hc16) ?_
      refine fr_bipush (pc := 102) (v := (48 : Int32)) dX9_readsDebt_102 (by decide) ?_
      refine fr_isub (pc := 104) dX9_readsDebt_104 ?_
      obtain ⟨g18, hf⟩ := fd_g_e hf
      obtain ⟨h19, eh19, hf⟩ := fd_lt_e hf
      refine vm_iast (pc := 105) dX9_readsDebt_105 (by decide) (by decide) rfl g18 eh19 ?_
      refine fr_aload_n (pc := 106) dX9_readsDebt_106 0 rfl rfl ?_
      refine fr_getR (pc := 107) dX9_readsDebt_107 fl_X9_37 (by decide) rfl rfl ?_
      refine fr_iload_n (pc := 110) dX9_readsDebt_110 1 rfl rfl ?_
      refine fr_bipush (pc := 111) (v := (10 : Int32)) dX9_readsDebt_111 (by decide) ?_
      refine fr_aload_n (pc := 113) dX9_readsDebt_113 0 rfl rfl ?_
      refine fr_iconst (pc := 114) (v := (2 : Int32)) dX9_readsDebt_114 (by decide) ?_
      refine fr_iload_n (pc := 115) dX9_readsDebt_115 2 rfl rfl ?_
      refine fr_iconst (pc := 116) (v := (5 : Int32)) dX9_readsDebt_116 (by decide) ?_
      refine fr_iadd (pc := 117) dX9_readsDebt_117 ?_
      obtain ⟨r21, hc20, hf⟩ := fd_bi hf
      refine fr_callVi (pc := 118) (av := [.int (2 : Int32), .int (a2 + (5 : Int32))]) dX9_readsDebt_118 yy_X9_byteAt kw_152 (by decide) rfl rfl rfl rfl (Nat.le_of_ble_eq_true rfl) ⟨Nat.le_of_ble_eq_true rfl, Nat.le_of_ble_eq_true rfl, Nat.zero_le _, Nat.zero_le _⟩ (sX9_byteAt hc20) ?_
      refine fr_bipush (pc := 121) (v := (48 : Int32)) dX9_readsDebt_121 (by decide) ?_
      refine fr_isub (pc := 123) dX9_readsDebt_123 ?_
      refine fr_imul (pc := 124) dX9_readsDebt_124 ?_
      refine fr_aload_n (pc := 125) dX9_readsDebt_125 0 rfl rfl ?_
      refine fr_iconst (pc := 126) (v := (2 : Int32)) dX9_readsDebt_126 (by decide) ?_
      refine fr_iload_n (pc := 127) dX9_readsDebt_127 2 rfl rfl ?_
      refine fr_bipush (pc := 128) (v := (6 : Int32)) dX9_readsDebt_128 (by decide) ?_
      refine fr_iadd (pc := 130) dX9_readsDebt_130 ?_
      obtain ⟨r23, hc22, hf⟩ := fd_bi hf
      refine fr_callVi (pc := 131) (av := [.int (2 : Int32), .int (a2 + (6 : Int32))]) dX9_readsDebt_131 yy_X9_byteAt kw_152 (by decide) rfl rfl rfl rfl (Nat.le_of_ble_eq_true rfl) ⟨Nat.le_of_ble_eq_true rfl, Nat.le_of_ble_eq_true rfl, Nat.zero_le _, Nat.zero_le _⟩ (sX9_byteAt hc22) ?_
      refine fr_iadd (pc := 134) dX9_readsDebt_134 ?_
      refine fr_bipush (pc := 135) (v := (48 : Int32)) dX9_readsDebt_135 (by decide) ?_
      refine fr_isub (pc := 137) dX9_readsDebt_137 ?_
      obtain ⟨g24, hf⟩ := fd_g_e hf
      obtain ⟨h25, eh25, hf⟩ := fd_lt_e hf
      refine vm_iast (pc := 138) dX9_readsDebt_138 (by decide) (by decide) rfl g24 eh25 ?_
      refine fr_bipush (pc := 139) (v := (7 : Int32)) dX9_readsDebt_139 (by decide) ?_
      exact vm_iretW (x := (7 : Int32)) (pc := 141) dX9_readsDebt_141 rfl hf
    · have hf := fd_f c1 hf
      refine fr_aload_n (pc := 8) dX9_readsDebt_8 0 rfl rfl ?_
      refine fr_iload_n (pc := 9) dX9_readsDebt_9 2 rfl rfl ?_
      refine fr_iload_n (pc := 10) dX9_readsDebt_10 3 rfl rfl ?_
      obtain ⟨r27, hc26, hf⟩ := fd_bi hf
      refine fr_callVz (pc := 11) (av := [.int a2, .int v3]) dX9_readsDebt_11 yy_X9_isWell kw_243 (by decide) rfl rfl rfl rfl (Nat.le_of_ble_eq_true rfl) ⟨Nat.le_of_ble_eq_true rfl, Nat.le_of_ble_eq_true rfl, Nat.zero_le _, Nat.zero_le _⟩ (sX9_isWell hc26) ?_
      refine fr_bn (pc := 14) 19 dX9_readsDebt_14 (by decide) (fun c28 => ?_) (fun c28 => ?_)
      · have hf := fd_t c28 hf
        refine fr_iinc (pc := 19) (v := (v3 + (1 : Int32))) (lv' := [(3, .int (v3 + (1 : Int32))), (0, .ref (g.2.2.2 + 73)), (1, .int a1), (2, .int a2)]) dX9_readsDebt_19 3 rfl rfl (by decide) rfl ?_
        refine fr_goto (pc := 22) 2 dX9_readsDebt_22 (by decide) ?_
        refine fr_loc (lv' := [(0, .ref (g.2.2.2 + 73)), (1, .int a1), (2, .int a2), (3, .int (v3 + (1 : Int32)))]) [1, 2, 3, 0] rfl ?_
        exact ih _ _ hf
      · have hf := fd_f c28 hf
        refine fr_iload_n (pc := 17) dX9_readsDebt_17 3 rfl rfl ?_
        exact vm_iretW (x := v3) (pc := 18) dX9_readsDebt_18 rfl hf
def fX9_readsDebt (a1 : Int32) (a2 : Int32) (h : fd_H) : Option (Int32 × fd_H) :=
fX9_readsDebt_L2 a1 a2 fd_fu (0 : Int32) h
set_option maxRecDepth 100000 in
set_option maxHeartbeats 4000000 in
theorem sX9_readsDebt {g : fd_G} {hm : fd_H} {a1 : Int32} {a2 : Int32} {r : Int32 × fd_H} {h : fd_H} (hf : fX9_readsDebt a1 a2 h = some r) : fd_S g mX9_readsDebt 2 [.ref (g.2.2.2 + 73), .int a1, .int a2] fd_X0 (fd_mx hm h) (some (.int r.1)) fd_X0 (fd_mx hm r.2) 0 0 := by
  refine fd_S.of (by decide +kernel) (Nat.le_of_ble_eq_true rfl) ?_
  unfold fX9_readsDebt at hf
  refine fr_loc (lv' := [(0, .ref (g.2.2.2 + 73)), (1, .int a1), (2, .int a2)]) [0, 1, 2] rfl ?_
  refine fr_iconst (pc := 0) (v := (0 : Int32)) dX9_readsDebt_0 (by decide) ?_
  refine fr_istore_n (pc := 1) (lv' := [(3, .int (0 : Int32)), (0, .ref (g.2.2.2 + 73)), (1, .int a1), (2, .int a2)]) dX9_readsDebt_1 rfl (by decide) rfl ?_
  refine fr_loc (lv' := [(0, .ref (g.2.2.2 + 73)), (1, .int a1), (2, .int a2), (3, .int (0 : Int32))]) [1, 2, 3, 0] rfl ?_
  exact sX9_readsDebt_L2 _  _ _ hf
theorem dX9_more_0 : decode cX9_more 0 = .ok (.iload_n 2, 1) := by decide +kernel
theorem dX9_more_1 : decode cX9_more 1 = .ok (.invokestatic 146, 3) := by decide +kernel
theorem dX9_more_4 : decode cX9_more 4 = .ok (.ifCond .eq 10, 3) := by decide +kernel
theorem dX9_more_7 : decode cX9_more 7 = .ok (.iload_n 3, 1) := by decide +kernel
theorem dX9_more_8 : decode cX9_more 8 = .ok (.invokestatic 149, 3) := by decide +kernel
theorem dX9_more_11 : decode cX9_more 11 = .ok (.ifCond .ne 6, 3) := by decide +kernel
theorem dX9_more_14 : decode cX9_more 14 = .ok (.bipush (-2), 2) := by decide +kernel
theorem dX9_more_16 : decode cX9_more 16 = .ok (.ireturn, 1) := by decide +kernel
theorem dX9_more_17 : decode cX9_more 17 = .ok (.aload_n 0, 1) := by decide +kernel
theorem dX9_more_18 : decode cX9_more 18 = .ok (.getfield 40, 3) := by decide +kernel
theorem dX9_more_21 : decode cX9_more 21 = .ok (.iload_n 1, 1) := by decide +kernel
theorem dX9_more_22 : decode cX9_more 22 = .ok (.iaload, 1) := by decide +kernel
theorem dX9_more_23 : decode cX9_more 23 = .ok (.bipush 8, 2) := by decide +kernel
theorem dX9_more_25 : decode cX9_more 25 = .ok (.if_icmp .ne 6, 3) := by decide +kernel
theorem dX9_more_28 : decode cX9_more 28 = .ok (.bipush (-4), 2) := by decide +kernel
theorem dX9_more_30 : decode cX9_more 30 = .ok (.ireturn, 1) := by decide +kernel
theorem dX9_more_31 : decode cX9_more 31 = .ok (.aload_n 0, 1) := by decide +kernel
theorem dX9_more_32 : decode cX9_more 32 = .ok (.getfield 43, 3) := by decide +kernel
theorem dX9_more_35 : decode cX9_more 35 = .ok (.bipush 8, 2) := by decide +kernel
theorem dX9_more_37 : decode cX9_more 37 = .ok (.iload_n 1, 1) := by decide +kernel
theorem dX9_more_38 : decode cX9_more 38 = .ok (.imul, 1) := by decide +kernel
theorem dX9_more_39 : decode cX9_more 39 = .ok (.aload_n 0, 1) := by decide +kernel
theorem dX9_more_40 : decode cX9_more 40 = .ok (.getfield 40, 3) := by decide +kernel
theorem dX9_more_43 : decode cX9_more 43 = .ok (.iload_n 1, 1) := by decide +kernel
theorem dX9_more_44 : decode cX9_more 44 = .ok (.iaload, 1) := by decide +kernel
theorem dX9_more_45 : decode cX9_more 45 = .ok (.iadd, 1) := by decide +kernel
theorem dX9_more_46 : decode cX9_more 46 = .ok (.iload_n 2, 1) := by decide +kernel
theorem dX9_more_47 : decode cX9_more 47 = .ok (.iastore, 1) := by decide +kernel
theorem dX9_more_48 : decode cX9_more 48 = .ok (.aload_n 0, 1) := by decide +kernel
theorem dX9_more_49 : decode cX9_more 49 = .ok (.getfield 46, 3) := by decide +kernel
theorem dX9_more_52 : decode cX9_more 52 = .ok (.bipush 8, 2) := by decide +kernel
theorem dX9_more_54 : decode cX9_more 54 = .ok (.iload_n 1, 1) := by decide +kernel
theorem dX9_more_55 : decode cX9_more 55 = .ok (.imul, 1) := by decide +kernel
theorem dX9_more_56 : decode cX9_more 56 = .ok (.aload_n 0, 1) := by decide +kernel
theorem dX9_more_57 : decode cX9_more 57 = .ok (.getfield 40, 3) := by decide +kernel
theorem dX9_more_60 : decode cX9_more 60 = .ok (.iload_n 1, 1) := by decide +kernel
theorem dX9_more_61 : decode cX9_more 61 = .ok (.iaload, 1) := by decide +kernel
theorem dX9_more_62 : decode cX9_more 62 = .ok (.iadd, 1) := by decide +kernel
theorem dX9_more_63 : decode cX9_more 63 = .ok (.iload_n 3, 1) := by decide +kernel
theorem dX9_more_64 : decode cX9_more 64 = .ok (.iastore, 1) := by decide +kernel
theorem dX9_more_65 : decode cX9_more 65 = .ok (.aload_n 0, 1) := by decide +kernel
theorem dX9_more_66 : decode cX9_more 66 = .ok (.getfield 40, 3) := by decide +kernel
theorem dX9_more_69 : decode cX9_more 69 = .ok (.iload_n 1, 1) := by decide +kernel
theorem dX9_more_70 : decode cX9_more 70 = .ok (.dup2, 1) := by decide +kernel
theorem dX9_more_71 : decode cX9_more 71 = .ok (.iaload, 1) := by decide +kernel
theorem dX9_more_72 : decode cX9_more 72 = .ok (.iconst 1, 1) := by decide +kernel
theorem dX9_more_73 : decode cX9_more 73 = .ok (.iadd, 1) := by decide +kernel
theorem dX9_more_74 : decode cX9_more 74 = .ok (.iastore, 1) := by decide +kernel
theorem dX9_more_75 : decode cX9_more 75 = .ok (.aload_n 0, 1) := by decide +kernel
theorem dX9_more_76 : decode cX9_more 76 = .ok (.getfield 40, 3) := by decide +kernel
theorem dX9_more_79 : decode cX9_more 79 = .ok (.iload_n 1, 1) := by decide +kernel
theorem dX9_more_80 : decode cX9_more 80 = .ok (.iaload, 1) := by decide +kernel
theorem dX9_more_81 : decode cX9_more 81 = .ok (.ireturn, 1) := by decide +kernel
def fX9_more (a1 : Int32) (a2 : Int32) (a3 : Int32) (h : fd_H) : Option (Int32 × fd_H) :=
(fX9_isForty a2).bind fun r2 =>
if r2 = true then (
(fX9_isEight a3).bind fun r5 =>
if r5 = true then (
fd_g (fd_in a1 3) (
if (h.1 84 a1.toNatClampNeg) = (8 : Int32) then (
some ((-4 : Int32), h))
else (
fd_g (fd_in a1 3) (
fd_g (fd_in (((8 : Int32) * a1) + (h.1 84 a1.toNatClampNeg)) 24) (
fd_lt (fd_ui h 85 (((8 : Int32) * a1) + (h.1 84 a1.toNatClampNeg)).toNatClampNeg a2) fun h11 =>
fd_g (fd_in a1 3) (
fd_g (fd_in (((8 : Int32) * a1) + (h11.1 84 a1.toNatClampNeg)) 24) (
fd_lt (fd_ui h11 86 (((8 : Int32) * a1) + (h11.1 84 a1.toNatClampNeg)).toNatClampNeg a3) fun h14 =>
fd_g (fd_in a1 3) (
fd_g (fd_in a1 3) (
fd_lt (fd_ui h14 84 a1.toNatClampNeg ((h14.1 84 a1.toNatClampNeg) + (1 : Int32))) fun h17 =>
fd_g (fd_in a1 3) (
some ((h17.1 84 a1.toNatClampNeg), h17)))))))))))
else (
some ((-2 : Int32), h)))
else (
some ((-2 : Int32), h))
set_option maxRecDepth 100000 in
set_option maxHeartbeats 4000000 in
theorem sX9_more {g : fd_G} {hm : fd_H} {a1 : Int32} {a2 : Int32} {a3 : Int32} {r : Int32 × fd_H} {h : fd_H} (hf : fX9_more a1 a2 a3 h = some r) : fd_S g mX9_more 2 [.ref (g.2.2.2 + 73), .int a1, .int a2, .int a3] fd_X0 (fd_mx hm h) (some (.int r.1)) fd_X0 (fd_mx hm r.2) 0 0 := by
  refine fd_S.of (by decide +kernel) (Nat.le_of_ble_eq_true rfl) ?_
  unfold fX9_more at hf
  refine fr_loc (lv' := [(0, .ref (g.2.2.2 + 73)), (1, .int a1), (2, .int a2), (3, .int a3)]) [0, 1, 2, 3] rfl ?_
  refine fr_iload_n (pc := 0) dX9_more_0 2 rfl rfl ?_
  obtain ⟨r2, hc1, hf⟩ := fd_bi hf
  refine fr_callSz (pc := 1) (av := [.int a2]) dX9_more_1 yy_X9_isForty kw_246 rfl rfl (Nat.le_of_ble_eq_true rfl) ⟨Nat.le_of_ble_eq_true rfl, Nat.le_of_ble_eq_true rfl, Nat.zero_le _, Nat.zero_le _⟩ (sX9_isForty hc1) ?_
  refine fr_bz (pc := 4) 14 dX9_more_4 (by decide) (fun c3 => ?_) (fun c3 => ?_)
  · have hf := fd_f c3 hf
    refine fr_bipush (pc := 14) (v := (-2 : Int32)) dX9_more_14 (by decide) ?_
    exact vm_iretW (x := (-2 : Int32)) (pc := 16) dX9_more_16 rfl hf
  · have hf := fd_t c3 hf
    refine fr_iload_n (pc := 7) dX9_more_7 3 rfl rfl ?_
    obtain ⟨r5, hc4, hf⟩ := fd_bi hf
    refine fr_callSz (pc := 8) (av := [.int a3]) dX9_more_8 yy_X9_isEight kw_249 rfl rfl (Nat.le_of_ble_eq_true rfl) ⟨Nat.le_of_ble_eq_true rfl, Nat.le_of_ble_eq_true rfl, Nat.zero_le _, Nat.zero_le _⟩ (sX9_isEight hc4) ?_
    refine fr_bn (pc := 11) 17 dX9_more_11 (by decide) (fun c6 => ?_) (fun c6 => ?_)
    · have hf := fd_t c6 hf
      refine fr_aload_n (pc := 17) dX9_more_17 0 rfl rfl ?_
      refine fr_getR (pc := 18) dX9_more_18 fl_X9_40 (by decide) rfl rfl ?_
      refine fr_iload_n (pc := 21) dX9_more_21 1 rfl rfl ?_
      obtain ⟨g7, hf⟩ := fd_g_e hf
      refine vm_iald (pc := 22) dX9_more_22 (by decide) (by decide) rfl g7 ?_
      refine fr_bipush (pc := 23) (v := (8 : Int32)) dX9_more_23 (by decide) ?_
      refine fr_icmp_ne (pc := 25) 31 dX9_more_25 (by decide) (fun c8 => ?_) (fun c8 => ?_)
      · have hf := fd_f c8 hf
        refine fr_aload_n (pc := 31) dX9_more_31 0 rfl rfl ?_
        refine fr_getR (pc := 32) dX9_more_32 fl_X9_43 (by decide) rfl rfl ?_
        refine fr_bipush (pc := 35) (v := (8 : Int32)) dX9_more_35 (by decide) ?_
        refine fr_iload_n (pc := 37) dX9_more_37 1 rfl rfl ?_
        refine fr_imul (pc := 38) dX9_more_38 ?_
        refine fr_aload_n (pc := 39) dX9_more_39 0 rfl rfl ?_
        refine fr_getR (pc := 40) dX9_more_40 fl_X9_40 (by decide) rfl rfl ?_
        refine fr_iload_n (pc := 43) dX9_more_43 1 rfl rfl ?_
        obtain ⟨g9, hf⟩ := fd_g_e hf
        refine vm_iald (pc := 44) dX9_more_44 (by decide) (by decide) rfl g9 ?_
        refine fr_iadd (pc := 45) dX9_more_45 ?_
        refine fr_iload_n (pc := 46) dX9_more_46 2 rfl rfl ?_
        obtain ⟨g10, hf⟩ := fd_g_e hf
        obtain ⟨h11, eh11, hf⟩ := fd_lt_e hf
        refine vm_iast (pc := 47) dX9_more_47 (by decide) (by decide) rfl g10 eh11 ?_
        refine fr_aload_n (pc := 48) dX9_more_48 0 rfl rfl ?_
        refine fr_getR (pc := 49) dX9_more_49 fl_X9_46 (by decide) rfl rfl ?_
        refine fr_bipush (pc := 52) (v := (8 : Int32)) dX9_more_52 (by decide) ?_
        refine fr_iload_n (pc := 54) dX9_more_54 1 rfl rfl ?_
        refine fr_imul (pc := 55) dX9_more_55 ?_
        refine fr_aload_n (pc := 56) dX9_more_56 0 rfl rfl ?_
        refine fr_getR (pc := 57) dX9_more_57 fl_X9_40 (by decide) rfl rfl ?_
        refine fr_iload_n (pc := 60) dX9_more_60 1 rfl rfl ?_
        obtain ⟨g12, hf⟩ := fd_g_e hf
        refine vm_iald (pc := 61) dX9_more_61 (by decide) (by decide) rfl g12 ?_
        refine fr_iadd (pc := 62) dX9_more_62 ?_
        refine fr_iload_n (pc := 63) dX9_more_63 3 rfl rfl ?_
        obtain ⟨g13, hf⟩ := fd_g_e hf
        obtain ⟨h14, eh14, hf⟩ := fd_lt_e hf
        refine vm_iast (pc := 64) dX9_more_64 (by decide) (by decide) rfl g13 eh14 ?_
        refine fr_aload_n (pc := 65) dX9_more_65 0 rfl rfl ?_
        refine fr_getR (pc := 66) dX9_more_66 fl_X9_40 (by decide) rfl rfl ?_
        refine fr_iload_n (pc := 69) dX9_more_69 1 rfl rfl ?_
        refine fr_dup2 (pc := 70) dX9_more_70 rfl rfl ?_
        obtain ⟨g15, hf⟩ := fd_g_e hf
        refine vm_iald (pc := 71) dX9_more_71 (by decide) (by decide) rfl g15 ?_
        refine fr_iconst (pc := 72) (v := (1 : Int32)) dX9_more_72 (by decide) ?_
        refine fr_iadd (pc := 73) dX9_more_73 ?_
        obtain ⟨g16, hf⟩ := fd_g_e hf
        obtain ⟨h17, eh17, hf⟩ := fd_lt_e hf
        refine vm_iast (pc := 74) dX9_more_74 (by decide) (by decide) rfl g16 eh17 ?_
        refine fr_aload_n (pc := 75) dX9_more_75 0 rfl rfl ?_
        refine fr_getR (pc := 76) dX9_more_76 fl_X9_40 (by decide) rfl rfl ?_
        refine fr_iload_n (pc := 79) dX9_more_79 1 rfl rfl ?_
        obtain ⟨g18, hf⟩ := fd_g_e hf
        refine vm_iald (pc := 80) dX9_more_80 (by decide) (by decide) rfl g18 ?_
        exact vm_iretW (x := (h17.1 84 a1.toNatClampNeg)) (pc := 81) dX9_more_81 rfl hf
      · have hf := fd_t c8 hf
        refine fr_bipush (pc := 28) (v := (-4 : Int32)) dX9_more_28 (by decide) ?_
        exact vm_iretW (x := (-4 : Int32)) (pc := 30) dX9_more_30 rfl hf
    · have hf := fd_f c6 hf
      refine fr_bipush (pc := 14) (v := (-2 : Int32)) dX9_more_14 (by decide) ?_
      exact vm_iretW (x := (-2 : Int32)) (pc := 16) dX9_more_16 rfl hf
theorem dX9_lays_0 : decode cX9_lays 0 = .ok (.iconst 0, 1) := by decide +kernel
theorem dX9_lays_1 : decode cX9_lays 1 = .ok (.istore_n 1, 1) := by decide +kernel
theorem dX9_lays_2 : decode cX9_lays 2 = .ok (.iload_n 1, 1) := by decide +kernel
theorem dX9_lays_3 : decode cX9_lays 3 = .ok (.aload_n 0, 1) := by decide +kernel
theorem dX9_lays_4 : decode cX9_lays 4 = .ok (.getfield 105, 3) := by decide +kernel
theorem dX9_lays_7 : decode cX9_lays 7 = .ok (.if_icmp .ge 87, 3) := by decide +kernel
theorem dX9_lays_10 : decode cX9_lays 10 = .ok (.aload_n 0, 1) := by decide +kernel
theorem dX9_lays_11 : decode cX9_lays 11 = .ok (.getfield 53, 3) := by decide +kernel
theorem dX9_lays_14 : decode cX9_lays 14 = .ok (.iload_n 1, 1) := by decide +kernel
theorem dX9_lays_15 : decode cX9_lays 15 = .ok (.iconst (-1), 1) := by decide +kernel
theorem dX9_lays_16 : decode cX9_lays 16 = .ok (.iastore, 1) := by decide +kernel
theorem dX9_lays_17 : decode cX9_lays 17 = .ok (.aload_n 0, 1) := by decide +kernel
theorem dX9_lays_18 : decode cX9_lays 18 = .ok (.getfield 117, 3) := by decide +kernel
theorem dX9_lays_21 : decode cX9_lays 21 = .ok (.iconst 1, 1) := by decide +kernel
theorem dX9_lays_22 : decode cX9_lays 22 = .ok (.isub, 1) := by decide +kernel
theorem dX9_lays_23 : decode cX9_lays 23 = .ok (.istore_n 2, 1) := by decide +kernel
theorem dX9_lays_24 : decode cX9_lays 24 = .ok (.iload_n 2, 1) := by decide +kernel
theorem dX9_lays_25 : decode cX9_lays 25 = .ok (.ifCond .lt 63, 3) := by decide +kernel
theorem dX9_lays_28 : decode cX9_lays 28 = .ok (.aload_n 0, 1) := by decide +kernel
theorem dX9_lays_29 : decode cX9_lays 29 = .ok (.iconst 2, 1) := by decide +kernel
theorem dX9_lays_30 : decode cX9_lays 30 = .ok (.iload_n 2, 1) := by decide +kernel
theorem dX9_lays_31 : decode cX9_lays 31 = .ok (.iload_n 1, 1) := by decide +kernel
theorem dX9_lays_32 : decode cX9_lays 32 = .ok (.invokevirtual 162, 3) := by decide +kernel
theorem dX9_lays_35 : decode cX9_lays 35 = .ok (.ifCond .ne 21, 3) := by decide +kernel
theorem dX9_lays_38 : decode cX9_lays 38 = .ok (.aload_n 0, 1) := by decide +kernel
theorem dX9_lays_39 : decode cX9_lays 39 = .ok (.getfield 49, 3) := by decide +kernel
theorem dX9_lays_42 : decode cX9_lays 42 = .ok (.iload_n 2, 1) := by decide +kernel
theorem dX9_lays_43 : decode cX9_lays 43 = .ok (.baload, 1) := by decide +kernel
theorem dX9_lays_44 : decode cX9_lays 44 = .ok (.ifCond .ne 16, 3) := by decide +kernel
theorem dX9_lays_47 : decode cX9_lays 47 = .ok (.aload_n 0, 1) := by decide +kernel
theorem dX9_lays_48 : decode cX9_lays 48 = .ok (.iload_n 2, 1) := by decide +kernel
theorem dX9_lays_49 : decode cX9_lays 49 = .ok (.iload_n 1, 1) := by decide +kernel
theorem dX9_lays_50 : decode cX9_lays 50 = .ok (.invokevirtual 165, 3) := by decide +kernel
theorem dX9_lays_53 : decode cX9_lays 53 = .ok (.ifCond .eq 7, 3) := by decide +kernel
theorem dX9_lays_56 : decode cX9_lays 56 = .ok (.iconst 1, 1) := by decide +kernel
theorem dX9_lays_57 : decode cX9_lays 57 = .ok (.goto 4, 3) := by decide +kernel
theorem dX9_lays_60 : decode cX9_lays 60 = .ok (.iconst 0, 1) := by decide +kernel
theorem dX9_lays_61 : decode cX9_lays 61 = .ok (.istore_n 3, 1) := by decide +kernel
theorem dX9_lays_62 : decode cX9_lays 62 = .ok (.aload_n 0, 1) := by decide +kernel
theorem dX9_lays_63 : decode cX9_lays 63 = .ok (.getfield 53, 3) := by decide +kernel
theorem dX9_lays_66 : decode cX9_lays 66 = .ok (.iload_n 1, 1) := by decide +kernel
theorem dX9_lays_67 : decode cX9_lays 67 = .ok (.iload_n 3, 1) := by decide +kernel
theorem dX9_lays_68 : decode cX9_lays 68 = .ok (.ifCond .eq 7, 3) := by decide +kernel
theorem dX9_lays_71 : decode cX9_lays 71 = .ok (.iload_n 2, 1) := by decide +kernel
theorem dX9_lays_72 : decode cX9_lays 72 = .ok (.goto 9, 3) := by decide +kernel
theorem dX9_lays_75 : decode cX9_lays 75 = .ok (.aload_n 0, 1) := by decide +kernel
theorem dX9_lays_76 : decode cX9_lays 76 = .ok (.getfield 53, 3) := by decide +kernel
theorem dX9_lays_79 : decode cX9_lays 79 = .ok (.iload_n 1, 1) := by decide +kernel
theorem dX9_lays_80 : decode cX9_lays 80 = .ok (.iaload, 1) := by decide +kernel
theorem dX9_lays_81 : decode cX9_lays 81 = .ok (.iastore, 1) := by decide +kernel
theorem dX9_lays_82 : decode cX9_lays 82 = .ok (.iinc 2 (-1), 3) := by decide +kernel
theorem dX9_lays_85 : decode cX9_lays 85 = .ok (.goto (-61), 3) := by decide +kernel
theorem dX9_lays_88 : decode cX9_lays 88 = .ok (.iinc 1 1, 3) := by decide +kernel
theorem dX9_lays_91 : decode cX9_lays 91 = .ok (.goto (-89), 3) := by decide +kernel
theorem dX9_lays_94 : decode cX9_lays 94 = .ok (.return_, 1) := by decide +kernel
def fX9_lays_L81  (K24 : Int32 → Int32 → fd_H → Option (fd_H)) (v1 : Int32) (v2 : Int32) (vs0 : Int32) (vs1 : Int32) (h : fd_H) : Option (fd_H) :=
fd_g (fd_in vs1 8) (
fd_lt (fd_ui h 88 vs1.toNatClampNeg vs0) fun h2 =>
K24 v1 (v2 + (-1 : Int32)) h2)
set_option maxRecDepth 100000 in
set_option maxHeartbeats 4000000 in
theorem sX9_lays_L81 {g : fd_G} {hm : fd_H} {r : fd_H} {K24 : Int32 → Int32 → fd_H → Option (fd_H)} (hK24 : ∀ (v1 : Int32) (v2 : Int32) (h : fd_H), K24 v1 v2 h = some r → fd_A g mX9_lays fd_E (fd_rm 2 0 0) (fd_Q g none fd_X0 (fd_mx hm r) 0 0) 24 [(0, .ref (g.2.2.2 + 73)), (1, .int v1), (2, .int v2)] [] fd_X0 (fd_mx hm h) 0 0) : ∀ (v1 : Int32) (v2 : Int32) (vs0 : Int32) (vs1 : Int32) (h : fd_H), fX9_lays_L81  K24 v1 v2 vs0 vs1 h = some r → fd_A g mX9_lays fd_E (fd_rm 2 0 0) (fd_Q g none fd_X0 (fd_mx hm r) 0 0) 81 [(0, .ref (g.2.2.2 + 73)), (1, .int v1), (2, .int v2)] [.int vs0, .int vs1, .ref (g.2.2.2 + 88)] fd_X0 (fd_mx hm h) 0 0 := by
  intro v1 v2 vs0 vs1 h hf
  unfold fX9_lays_L81 at hf
  obtain ⟨g1, hf⟩ := fd_g_e hf
  obtain ⟨h2, eh2, hf⟩ := fd_lt_e hf
  refine vm_iast (pc := 81) dX9_lays_81 (by decide) (by decide) rfl g1 eh2 ?_
  refine fr_iinc (pc := 82) (v := (v2 + (-1 : Int32))) (lv' := [(2, .int (v2 + (-1 : Int32))), (0, .ref (g.2.2.2 + 73)), (1, .int v1)]) dX9_lays_82 2 rfl rfl (by decide) rfl ?_
  refine fr_goto (pc := 85) 24 dX9_lays_85 (by decide) ?_
  refine fr_loc (lv' := [(0, .ref (g.2.2.2 + 73)), (1, .int v1), (2, .int (v2 + (-1 : Int32)))]) [1, 2, 0] rfl ?_
  exact hK24 _ _ _ hf
def fX9_lays_L61  (K24 : Int32 → Int32 → fd_H → Option (fd_H)) (v1 : Int32) (v2 : Int32) (vs0 : Bool) (h : fd_H) : Option (fd_H) :=
if vs0 = true then (
fX9_lays_L81  K24 v1 v2 v2 v1 h)
else (
fd_g (fd_in v1 8) (
fX9_lays_L81  K24 v1 v2 (h.1 88 v1.toNatClampNeg) v1 h))
set_option maxRecDepth 100000 in
set_option maxHeartbeats 4000000 in
theorem sX9_lays_L61 {g : fd_G} {hm : fd_H} {r : fd_H} {K24 : Int32 → Int32 → fd_H → Option (fd_H)} (hK24 : ∀ (v1 : Int32) (v2 : Int32) (h : fd_H), K24 v1 v2 h = some r → fd_A g mX9_lays fd_E (fd_rm 2 0 0) (fd_Q g none fd_X0 (fd_mx hm r) 0 0) 24 [(0, .ref (g.2.2.2 + 73)), (1, .int v1), (2, .int v2)] [] fd_X0 (fd_mx hm h) 0 0) : ∀ (v1 : Int32) (v2 : Int32) (vs0 : Bool) (h : fd_H), fX9_lays_L61  K24 v1 v2 vs0 h = some r → fd_A g mX9_lays fd_E (fd_rm 2 0 0) (fd_Q g none fd_X0 (fd_mx hm r) 0 0) 61 [(0, .ref (g.2.2.2 + 73)), (1, .int v1), (2, .int v2)] [.int (fd_b vs0)] fd_X0 (fd_mx hm h) 0 0 := by
  intro v1 v2 vs0 h hf
  unfold fX9_lays_L61 at hf
  refine fr_istore_n (pc := 61) (lv' := [(3, .int (fd_b vs0)), (0, .ref (g.2.2.2 + 73)), (1, .int v1), (2, .int v2)]) dX9_lays_61 rfl (by decide) rfl ?_
  refine fr_aload_n (pc := 62) dX9_lays_62 1 rfl rfl ?_
  refine fr_getR (pc := 63) dX9_lays_63 fl_X9_53 (by decide) rfl rfl ?_
  refine fr_iload_n (pc := 66) dX9_lays_66 2 rfl rfl ?_
  refine fr_iload_n (pc := 67) dX9_lays_67 0 rfl rfl ?_
  refine fr_bz (pc := 68) 75 dX9_lays_68 (by decide) (fun c1 => ?_) (fun c1 => ?_)
  · have hf := fd_f c1 hf
    refine fr_aload_n (pc := 75) dX9_lays_75 1 rfl rfl ?_
    refine fr_getR (pc := 76) dX9_lays_76 fl_X9_53 (by decide) rfl rfl ?_
    refine fr_iload_n (pc := 79) dX9_lays_79 2 rfl rfl ?_
    obtain ⟨g2, hf⟩ := fd_g_e hf
    refine vm_iald (pc := 80) dX9_lays_80 (by decide) (by decide) rfl g2 ?_
    refine fr_loc (lv' := [(0, .ref (g.2.2.2 + 73)), (1, .int v1), (2, .int v2)]) [1, 2, 3] rfl ?_
    exact sX9_lays_L81 hK24  _ _ _ _ _ hf
  · have hf := fd_t c1 hf
    refine fr_iload_n (pc := 71) dX9_lays_71 3 rfl rfl ?_
    refine fr_goto (pc := 72) 81 dX9_lays_72 (by decide) ?_
    refine fr_loc (lv' := [(0, .ref (g.2.2.2 + 73)), (1, .int v1), (2, .int v2)]) [1, 2, 3] rfl ?_
    exact sX9_lays_L81 hK24  _ _ _ _ _ hf
def fX9_lays_L60  (K24 : Int32 → Int32 → fd_H → Option (fd_H)) (v1 : Int32) (v2 : Int32) (h : fd_H) : Option (fd_H) :=
fX9_lays_L61  K24 v1 v2 false h
set_option maxRecDepth 100000 in
set_option maxHeartbeats 4000000 in
theorem sX9_lays_L60 {g : fd_G} {hm : fd_H} {r : fd_H} {K24 : Int32 → Int32 → fd_H → Option (fd_H)} (hK24 : ∀ (v1 : Int32) (v2 : Int32) (h : fd_H), K24 v1 v2 h = some r → fd_A g mX9_lays fd_E (fd_rm 2 0 0) (fd_Q g none fd_X0 (fd_mx hm r) 0 0) 24 [(0, .ref (g.2.2.2 + 73)), (1, .int v1), (2, .int v2)] [] fd_X0 (fd_mx hm h) 0 0) : ∀ (v1 : Int32) (v2 : Int32) (h : fd_H), fX9_lays_L60  K24 v1 v2 h = some r → fd_A g mX9_lays fd_E (fd_rm 2 0 0) (fd_Q g none fd_X0 (fd_mx hm r) 0 0) 60 [(0, .ref (g.2.2.2 + 73)), (1, .int v1), (2, .int v2)] [] fd_X0 (fd_mx hm h) 0 0 := by
  intro v1 v2 h hf
  unfold fX9_lays_L60 at hf
  refine fr_iconst (pc := 60) (v := (0 : Int32)) dX9_lays_60 (by decide) ?_
  refine fr_loc (lv' := [(0, .ref (g.2.2.2 + 73)), (1, .int v1), (2, .int v2)]) [0, 1, 2] rfl ?_
  exact sX9_lays_L61 hK24  _ _ _ _ hf
def fX9_lays_L24  (K2 : Int32 → fd_H → Option (fd_H)) : Nat → Int32 → Int32 → fd_H → Option (fd_H)
  | 0 => fun _ _ _ => none
  | n + 1 => fun v1 v2 h =>
if v2 < 0 then (
K2 (v1 + (1 : Int32)) h)
else (
(fX9_isTold (2 : Int32) v2 v1 h).bind fun r3 =>
if r3 = true then (
fX9_lays_L61  (fX9_lays_L24  K2 n) v1 v2 true h)
else (
fd_g (fd_in v2 40) (
if (h.1 87 v2.toNatClampNeg) = 0 then (
(fX9_isCold v2 v1 h).bind fun r8 =>
if r8 = true then (
fX9_lays_L61  (fX9_lays_L24  K2 n) v1 v2 true h)
else (
fX9_lays_L60  (fX9_lays_L24  K2 n) v1 v2 h))
else (
fX9_lays_L60  (fX9_lays_L24  K2 n) v1 v2 h))))
set_option maxRecDepth 100000 in
set_option maxHeartbeats 4000000 in
theorem sX9_lays_L24 {g : fd_G} {hm : fd_H} {r : fd_H} {K2 : Int32 → fd_H → Option (fd_H)} (hK2 : ∀ (v1 : Int32) (h : fd_H), K2 v1 h = some r → fd_A g mX9_lays fd_E (fd_rm 2 0 0) (fd_Q g none fd_X0 (fd_mx hm r) 0 0) 2 [(0, .ref (g.2.2.2 + 73)), (1, .int v1)] [] fd_X0 (fd_mx hm h) 0 0) : ∀ (n : Nat) (v1 : Int32) (v2 : Int32) (h : fd_H), fX9_lays_L24  K2 n v1 v2 h = some r → fd_A g mX9_lays fd_E (fd_rm 2 0 0) (fd_Q g none fd_X0 (fd_mx hm r) 0 0) 24 [(0, .ref (g.2.2.2 + 73)), (1, .int v1), (2, .int v2)] [] fd_X0 (fd_mx hm h) 0 0 := by
  intro n
  induction n with
  | zero =>
    intro _ _ _ hf
    cases hf
  | succ n ih =>
    intro v1 v2 h hf
    rw [fX9_lays_L24] at hf
    refine fr_iload_n (pc := 24) dX9_lays_24 2 rfl rfl ?_
    refine fr_if_lt (pc := 25) 88 dX9_lays_25 (by decide) (fun c1 => ?_) (fun c1 => ?_)
    · have hf := fd_t c1 hf
      refine fr_iinc (pc := 88) (v := (v1 + (1 : Int32))) (lv' := [(1, .int (v1 + (1 : Int32))), (0, .ref (g.2.2.2 + 73)), (2, .int v2)]) dX9_lays_88 1 rfl rfl (by decide) rfl ?_
      refine fr_goto (pc := 91) 2 dX9_lays_91 (by decide) ?_
      refine fr_loc (lv' := [(0, .ref (g.2.2.2 + 73)), (1, .int (v1 + (1 : Int32)))]) [1, 0] rfl ?_
      exact hK2 _ _ hf
    · have hf := fd_f c1 hf
      refine fr_aload_n (pc := 28) dX9_lays_28 0 rfl rfl ?_
      refine fr_iconst (pc := 29) (v := (2 : Int32)) dX9_lays_29 (by decide) ?_
      refine fr_iload_n (pc := 30) dX9_lays_30 2 rfl rfl ?_
      refine fr_iload_n (pc := 31) dX9_lays_31 1 rfl rfl ?_
      obtain ⟨r3, hc2, hf⟩ := fd_bi hf
      refine fr_callVz (pc := 32) (av := [.int (2 : Int32), .int v2, .int v1]) dX9_lays_32 yy_X9_isTold kw_162 (by decide) rfl rfl rfl rfl (Nat.le_of_ble_eq_true rfl) ⟨Nat.le_of_ble_eq_true rfl, Nat.le_of_ble_eq_true rfl, Nat.zero_le _, Nat.zero_le _⟩ (sX9_isTold hc2) ?_
      refine fr_bn (pc := 35) 56 dX9_lays_35 (by decide) (fun c4 => ?_) (fun c4 => ?_)
      · have hf := fd_t c4 hf
        refine fr_iconst (pc := 56) (v := (1 : Int32)) dX9_lays_56 (by decide) ?_
        refine fr_goto (pc := 57) 61 dX9_lays_57 (by decide) ?_
        refine fr_loc (lv' := [(0, .ref (g.2.2.2 + 73)), (1, .int v1), (2, .int v2)]) [0, 1, 2] rfl ?_
        exact sX9_lays_L61 ih  _ _ _ _ hf
      · have hf := fd_f c4 hf
        refine fr_aload_n (pc := 38) dX9_lays_38 0 rfl rfl ?_
        refine fr_getR (pc := 39) dX9_lays_39 fl_X9_49 (by decide) rfl rfl ?_
        refine fr_iload_n (pc := 42) dX9_lays_42 2 rfl rfl ?_
        obtain ⟨g5, hf⟩ := fd_g_e hf
        refine vm_zald (pc := 43) dX9_lays_43 (by decide) (by decide) rfl g5 ?_
        refine fr_if_ne (pc := 44) 60 dX9_lays_44 (by decide) (fun c6 => ?_) (fun c6 => ?_)
        · have hf := fd_f c6 hf
          refine fr_loc (lv' := [(0, .ref (g.2.2.2 + 73)), (1, .int v1), (2, .int v2)]) [0, 1, 2] rfl ?_
          exact sX9_lays_L60 ih  _ _ _ hf
        · have hf := fd_t c6 hf
          refine fr_aload_n (pc := 47) dX9_lays_47 0 rfl rfl ?_
          refine fr_iload_n (pc := 48) dX9_lays_48 2 rfl rfl ?_
          refine fr_iload_n (pc := 49) dX9_lays_49 1 rfl rfl ?_
          obtain ⟨r8, hc7, hf⟩ := fd_bi hf
          refine fr_callVz (pc := 50) (av := [.int v2, .int v1]) dX9_lays_50 yy_X9_isCold kw_254 (by decide) rfl rfl rfl rfl (Nat.le_of_ble_eq_true rfl) ⟨Nat.le_of_ble_eq_true rfl, Nat.le_of_ble_eq_true rfl, Nat.zero_le _, Nat.zero_le _⟩ (sX9_isCold hc7) ?_
          refine fr_bz (pc := 53) 60 dX9_lays_53 (by decide) (fun c9 => ?_) (fun c9 => ?_)
          · have hf := fd_f c9 hf
            refine fr_loc (lv' := [(0, .ref (g.2.2.2 + 73)), (1, .int v1), (2, .int v2)]) [0, 1, 2] rfl ?_
            exact sX9_lays_L60 ih  _ _ _ hf
          · have hf := fd_t c9 hf
            refine fr_iconst (pc := 56) (v := (1 : Int32)) dX9_lays_56 (by decide) ?_
            refine fr_goto (pc := 57) 61 dX9_lays_57 (by decide) ?_
            refine fr_loc (lv' := [(0, .ref (g.2.2.2 + 73)), (1, .int v1), (2, .int v2)]) [0, 1, 2] rfl ?_
            exact sX9_lays_L61 ih  _ _ _ _ hf
def fX9_lays_L2  : Nat → Int32 → fd_H → Option (fd_H)
  | 0 => fun _ _ => none
  | n + 1 => fun v1 h =>
if (h.1 73 2) ≤ v1 then (
some h)
else (
fd_g (fd_in v1 8) (
fd_lt (fd_ui h 88 v1.toNatClampNeg (-1 : Int32)) fun h3 =>
fd_lt (((h3.1 73 5) - (1 : Int32))) fun x4 =>
fX9_lays_L24  (fX9_lays_L2  n) fd_fu v1 x4 h3))
set_option maxRecDepth 100000 in
set_option maxHeartbeats 4000000 in
theorem sX9_lays_L2 {g : fd_G} {hm : fd_H} {r : fd_H} : ∀ (n : Nat) (v1 : Int32) (h : fd_H), fX9_lays_L2  n v1 h = some r → fd_A g mX9_lays fd_E (fd_rm 2 0 0) (fd_Q g none fd_X0 (fd_mx hm r) 0 0) 2 [(0, .ref (g.2.2.2 + 73)), (1, .int v1)] [] fd_X0 (fd_mx hm h) 0 0 := by
  intro n
  induction n with
  | zero =>
    intro _ _ hf
    cases hf
  | succ n ih =>
    intro v1 h hf
    rw [fX9_lays_L2] at hf
    refine fr_iload_n (pc := 2) dX9_lays_2 1 rfl rfl ?_
    refine fr_aload_n (pc := 3) dX9_lays_3 0 rfl rfl ?_
    refine vm_getI (pc := 4) dX9_lays_4 fl_X9_105 (by decide) (by decide) rfl rfl ?_
    refine fr_icmp_ge (pc := 7) 94 dX9_lays_7 (by decide) (fun c1 => ?_) (fun c1 => ?_)
    · have hf := fd_t c1 hf
      exact vm_vretW (pc := 94) dX9_lays_94 rfl hf
    · have hf := fd_f c1 hf
      refine fr_aload_n (pc := 10) dX9_lays_10 0 rfl rfl ?_
      refine fr_getR (pc := 11) dX9_lays_11 fl_X9_53 (by decide) rfl rfl ?_
      refine fr_iload_n (pc := 14) dX9_lays_14 1 rfl rfl ?_
      refine fr_iconst (pc := 15) (v := (-1 : Int32)) dX9_lays_15 (by decide) ?_
      obtain ⟨g2, hf⟩ := fd_g_e hf
      obtain ⟨h3, eh3, hf⟩ := fd_lt_e hf
      refine vm_iast (pc := 16) dX9_lays_16 (by decide) (by decide) rfl g2 eh3 ?_
      refine fr_aload_n (pc := 17) dX9_lays_17 0 rfl rfl ?_
      refine vm_getI (pc := 18) dX9_lays_18 fl_X9_117 (by decide) (by decide) rfl rfl ?_
      refine fr_iconst (pc := 21) (v := (1 : Int32)) dX9_lays_21 (by decide) ?_
      refine fr_isub (pc := 22) dX9_lays_22 ?_
      obtain ⟨x4, ex4, hf⟩ := fd_lt_e hf
      refine fr_nmi ex4 ?_
      refine fr_istore_n (pc := 23) (lv' := [(2, .int x4), (0, .ref (g.2.2.2 + 73)), (1, .int v1)]) dX9_lays_23 rfl (by decide) rfl ?_
      refine fr_loc (lv' := [(0, .ref (g.2.2.2 + 73)), (1, .int v1), (2, .int x4)]) [1, 2, 0] rfl ?_
      exact sX9_lays_L24 ih _  _ _ _ hf
def fX9_lays  (h : fd_H) : Option (fd_H) :=
fX9_lays_L2  fd_fu (0 : Int32) h
set_option maxRecDepth 100000 in
set_option maxHeartbeats 4000000 in
theorem sX9_lays {g : fd_G} {hm : fd_H} {r : fd_H} {h : fd_H} (hf : fX9_lays  h = some r) : fd_S g mX9_lays 2 [.ref (g.2.2.2 + 73)] fd_X0 (fd_mx hm h) none fd_X0 (fd_mx hm r) 0 0 := by
  refine fd_S.of (by decide +kernel) (Nat.le_of_ble_eq_true rfl) ?_
  unfold fX9_lays at hf
  refine fr_loc (lv' := [(0, .ref (g.2.2.2 + 73))]) [0] rfl ?_
  refine fr_iconst (pc := 0) (v := (0 : Int32)) dX9_lays_0 (by decide) ?_
  refine fr_istore_n (pc := 1) (lv' := [(1, .int (0 : Int32)), (0, .ref (g.2.2.2 + 73))]) dX9_lays_1 rfl (by decide) rfl ?_
  refine fr_loc (lv' := [(0, .ref (g.2.2.2 + 73)), (1, .int (0 : Int32))]) [1, 0] rfl ?_
  exact sX9_lays_L2 _  _ _ hf
theorem dX9_standsFor_0 : decode cX9_standsFor 0 = .ok (.iconst 0, 1) := by decide +kernel
theorem dX9_standsFor_1 : decode cX9_standsFor 1 = .ok (.istore_n 3, 1) := by decide +kernel
theorem dX9_standsFor_2 : decode cX9_standsFor 2 = .ok (.iconst 0, 1) := by decide +kernel
theorem dX9_standsFor_3 : decode cX9_standsFor 3 = .ok (.istore 4, 2) := by decide +kernel
theorem dX9_standsFor_5 : decode cX9_standsFor 5 = .ok (.iload 4, 2) := by decide +kernel
theorem dX9_standsFor_7 : decode cX9_standsFor 7 = .ok (.bipush 40, 2) := by decide +kernel
theorem dX9_standsFor_9 : decode cX9_standsFor 9 = .ok (.if_icmp .ge 28, 3) := by decide +kernel
theorem dX9_standsFor_12 : decode cX9_standsFor 12 = .ok (.iload_n 3, 1) := by decide +kernel
theorem dX9_standsFor_13 : decode cX9_standsFor 13 = .ok (.aload_n 0, 1) := by decide +kernel
theorem dX9_standsFor_14 : decode cX9_standsFor 14 = .ok (.iload_n 1, 1) := by decide +kernel
theorem dX9_standsFor_15 : decode cX9_standsFor 15 = .ok (.iload_n 2, 1) := by decide +kernel
theorem dX9_standsFor_16 : decode cX9_standsFor 16 = .ok (.iload 4, 2) := by decide +kernel
theorem dX9_standsFor_18 : decode cX9_standsFor 18 = .ok (.invokevirtual 192, 3) := by decide +kernel
theorem dX9_standsFor_21 : decode cX9_standsFor 21 = .ok (.ifCond .eq 7, 3) := by decide +kernel
theorem dX9_standsFor_24 : decode cX9_standsFor 24 = .ok (.iconst 1, 1) := by decide +kernel
theorem dX9_standsFor_25 : decode cX9_standsFor 25 = .ok (.goto 4, 3) := by decide +kernel
theorem dX9_standsFor_28 : decode cX9_standsFor 28 = .ok (.iconst 0, 1) := by decide +kernel
theorem dX9_standsFor_29 : decode cX9_standsFor 29 = .ok (.iadd, 1) := by decide +kernel
theorem dX9_standsFor_30 : decode cX9_standsFor 30 = .ok (.istore_n 3, 1) := by decide +kernel
theorem dX9_standsFor_31 : decode cX9_standsFor 31 = .ok (.iinc 4 1, 3) := by decide +kernel
theorem dX9_standsFor_34 : decode cX9_standsFor 34 = .ok (.goto (-29), 3) := by decide +kernel
theorem dX9_standsFor_37 : decode cX9_standsFor 37 = .ok (.iload_n 3, 1) := by decide +kernel
theorem dX9_standsFor_38 : decode cX9_standsFor 38 = .ok (.ireturn, 1) := by decide +kernel
def fX9_standsFor_L29 (a1 : Int32) (a2 : Int32) (h : fd_H) (K5 : Int32 → Int32 → Option (Int32)) (v4 : Int32) (vs0 : Bool) (vs1 : Int32) : Option (Int32) :=
fd_lt ((vs1 + (fd_b vs0))) fun x1 =>
K5 x1 (v4 + (1 : Int32))
set_option maxRecDepth 100000 in
set_option maxHeartbeats 4000000 in
theorem sX9_standsFor_L29 {g : fd_G} {hm : fd_H} {a1 : Int32} {a2 : Int32} {h : fd_H} {r : Int32} {K5 : Int32 → Int32 → Option (Int32)} (hK5 : ∀ (v3 : Int32) (v4 : Int32), K5 v3 v4 = some r → fd_A g mX9_standsFor fd_E (fd_rm 2 0 0) (fd_Q g (some (.int r)) fd_X0 (fd_mx hm h) 0 0) 5 [(0, .ref (g.2.2.2 + 73)), (1, .int a1), (2, .int a2), (3, .int v3), (4, .int v4)] [] fd_X0 (fd_mx hm h) 0 0) : ∀ (v4 : Int32) (vs0 : Bool) (vs1 : Int32), fX9_standsFor_L29 a1 a2 h K5 v4 vs0 vs1 = some r → fd_A g mX9_standsFor fd_E (fd_rm 2 0 0) (fd_Q g (some (.int r)) fd_X0 (fd_mx hm h) 0 0) 29 [(0, .ref (g.2.2.2 + 73)), (1, .int a1), (2, .int a2), (4, .int v4)] [.int (fd_b vs0), .int vs1] fd_X0 (fd_mx hm h) 0 0 := by
  intro v4 vs0 vs1 hf
  unfold fX9_standsFor_L29 at hf
  refine fr_iadd (pc := 29) dX9_standsFor_29 ?_
  obtain ⟨x1, ex1, hf⟩ := fd_lt_e hf
  refine fr_nmi ex1 ?_
  refine fr_istore_n (pc := 30) (lv' := [(3, .int x1), (0, .ref (g.2.2.2 + 73)), (1, .int a1), (2, .int a2), (4, .int v4)]) dX9_standsFor_30 rfl (by decide) rfl ?_
  refine fr_iinc (pc := 31) (v := (v4 + (1 : Int32))) (lv' := [(4, .int (v4 + (1 : Int32))), (3, .int x1), (0, .ref (g.2.2.2 + 73)), (1, .int a1), (2, .int a2)]) dX9_standsFor_31 4 rfl rfl (by decide) rfl ?_
  refine fr_goto (pc := 34) 5 dX9_standsFor_34 (by decide) ?_
  refine fr_loc (lv' := [(0, .ref (g.2.2.2 + 73)), (1, .int a1), (2, .int a2), (3, .int x1), (4, .int (v4 + (1 : Int32)))]) [2, 3, 4, 1, 0] rfl ?_
  exact hK5 _ _ hf
def fX9_standsFor_L5 (a1 : Int32) (a2 : Int32) (h : fd_H) : Nat → Int32 → Int32 → Option (Int32)
  | 0 => fun _ _ => none
  | n + 1 => fun v3 v4 =>
if (40 : Int32) ≤ v4 then (
some (v3))
else (
(fX9_isStanding a1 a2 v4 h).bind fun r3 =>
if r3 = true then (
fX9_standsFor_L29 a1 a2 h (fX9_standsFor_L5 a1 a2 h n) v4 true v3)
else (
fX9_standsFor_L29 a1 a2 h (fX9_standsFor_L5 a1 a2 h n) v4 false v3))
set_option maxRecDepth 100000 in
set_option maxHeartbeats 4000000 in
theorem sX9_standsFor_L5 {g : fd_G} {hm : fd_H} {a1 : Int32} {a2 : Int32} {h : fd_H} {r : Int32} : ∀ (n : Nat) (v3 : Int32) (v4 : Int32), fX9_standsFor_L5 a1 a2 h n v3 v4 = some r → fd_A g mX9_standsFor fd_E (fd_rm 2 0 0) (fd_Q g (some (.int r)) fd_X0 (fd_mx hm h) 0 0) 5 [(0, .ref (g.2.2.2 + 73)), (1, .int a1), (2, .int a2), (3, .int v3), (4, .int v4)] [] fd_X0 (fd_mx hm h) 0 0 := by
  intro n
  induction n with
  | zero =>
    intro _ _ hf
    cases hf
  | succ n ih =>
    intro v3 v4 hf
    rw [fX9_standsFor_L5] at hf
    refine fr_iload (pc := 5) dX9_standsFor_5 4 rfl ?_
    refine fr_bipush (pc := 7) (v := (40 : Int32)) dX9_standsFor_7 (by decide) ?_
    refine fr_icmp_ge (pc := 9) 37 dX9_standsFor_9 (by decide) (fun c1 => ?_) (fun c1 => ?_)
    · have hf := fd_t c1 hf
      refine fr_iload_n (pc := 37) dX9_standsFor_37 3 rfl rfl ?_
      exact fr_iretP (x := v3) (pc := 38) dX9_standsFor_38 rfl hf
    · have hf := fd_f c1 hf
      refine fr_iload_n (pc := 12) dX9_standsFor_12 3 rfl rfl ?_
      refine fr_aload_n (pc := 13) dX9_standsFor_13 0 rfl rfl ?_
      refine fr_iload_n (pc := 14) dX9_standsFor_14 1 rfl rfl ?_
      refine fr_iload_n (pc := 15) dX9_standsFor_15 2 rfl rfl ?_
      refine fr_iload (pc := 16) dX9_standsFor_16 4 rfl ?_
      obtain ⟨r3, hc2, hf⟩ := fd_bi hf
      refine fr_callVz (pc := 18) (av := [.int a1, .int a2, .int v4]) dX9_standsFor_18 yy_X9_isStanding kw_258 (by decide) rfl rfl rfl rfl (Nat.le_of_ble_eq_true rfl) ⟨Nat.le_of_ble_eq_true rfl, Nat.le_of_ble_eq_true rfl, Nat.zero_le _, Nat.zero_le _⟩ (sX9_isStanding hc2) ?_
      refine fr_bz (pc := 21) 28 dX9_standsFor_21 (by decide) (fun c4 => ?_) (fun c4 => ?_)
      · have hf := fd_f c4 hf
        refine fr_iconst (pc := 28) (v := (0 : Int32)) dX9_standsFor_28 (by decide) ?_
        refine fr_loc (lv' := [(0, .ref (g.2.2.2 + 73)), (1, .int a1), (2, .int a2), (4, .int v4)]) [0, 1, 2, 4] rfl ?_
        exact sX9_standsFor_L29 ih  _ _ _ hf
      · have hf := fd_t c4 hf
        refine fr_iconst (pc := 24) (v := (1 : Int32)) dX9_standsFor_24 (by decide) ?_
        refine fr_goto (pc := 25) 29 dX9_standsFor_25 (by decide) ?_
        refine fr_loc (lv' := [(0, .ref (g.2.2.2 + 73)), (1, .int a1), (2, .int a2), (4, .int v4)]) [0, 1, 2, 4] rfl ?_
        exact sX9_standsFor_L29 ih  _ _ _ hf
def fX9_standsFor (a1 : Int32) (a2 : Int32) (h : fd_H) : Option (Int32) :=
fX9_standsFor_L5 a1 a2 h fd_fu (0 : Int32) (0 : Int32)
set_option maxRecDepth 100000 in
set_option maxHeartbeats 4000000 in
theorem sX9_standsFor {g : fd_G} {hm : fd_H} {a1 : Int32} {a2 : Int32} {h : fd_H} {r : Int32} (hf : fX9_standsFor a1 a2 h = some r) : fd_S g mX9_standsFor 2 [.ref (g.2.2.2 + 73), .int a1, .int a2] fd_X0 (fd_mx hm h) (some (.int r)) fd_X0 (fd_mx hm h) 0 0 := by
  refine fd_S.of (by decide +kernel) (Nat.le_of_ble_eq_true rfl) ?_
  unfold fX9_standsFor at hf
  refine fr_loc (lv' := [(0, .ref (g.2.2.2 + 73)), (1, .int a1), (2, .int a2)]) [0, 1, 2] rfl ?_
  refine fr_iconst (pc := 0) (v := (0 : Int32)) dX9_standsFor_0 (by decide) ?_
  refine fr_istore_n (pc := 1) (lv' := [(3, .int (0 : Int32)), (0, .ref (g.2.2.2 + 73)), (1, .int a1), (2, .int a2)]) dX9_standsFor_1 rfl (by decide) rfl ?_
  refine fr_iconst (pc := 2) (v := (0 : Int32)) dX9_standsFor_2 (by decide) ?_
  refine fr_istore (pc := 3) (lv' := [(4, .int (0 : Int32)), (3, .int (0 : Int32)), (0, .ref (g.2.2.2 + 73)), (1, .int a1), (2, .int a2)]) dX9_standsFor_3 (by decide) rfl ?_
  refine fr_loc (lv' := [(0, .ref (g.2.2.2 + 73)), (1, .int a1), (2, .int a2), (3, .int (0 : Int32)), (4, .int (0 : Int32))]) [2, 3, 4, 1, 0] rfl ?_
  exact sX9_standsFor_L5 _  _ _ hf
theorem dX9_owesNow_0 : decode cX9_owesNow 0 = .ok (.iconst 0, 1) := by decide +kernel
theorem dX9_owesNow_1 : decode cX9_owesNow 1 = .ok (.istore 4, 2) := by decide +kernel
theorem dX9_owesNow_3 : decode cX9_owesNow 3 = .ok (.iconst 0, 1) := by decide +kernel
theorem dX9_owesNow_4 : decode cX9_owesNow 4 = .ok (.istore 5, 2) := by decide +kernel
theorem dX9_owesNow_6 : decode cX9_owesNow 6 = .ok (.iload 5, 2) := by decide +kernel
theorem dX9_owesNow_8 : decode cX9_owesNow 8 = .ok (.aload_n 0, 1) := by decide +kernel
theorem dX9_owesNow_9 : decode cX9_owesNow 9 = .ok (.getfield 108, 3) := by decide +kernel
theorem dX9_owesNow_12 : decode cX9_owesNow 12 = .ok (.if_icmp .ge 79, 3) := by decide +kernel
theorem dX9_owesNow_15 : decode cX9_owesNow 15 = .ok (.iload_n 3, 1) := by decide +kernel
theorem dX9_owesNow_16 : decode cX9_owesNow 16 = .ok (.ifCond .ne 13, 3) := by decide +kernel
theorem dX9_owesNow_19 : decode cX9_owesNow 19 = .ok (.aload_n 0, 1) := by decide +kernel
theorem dX9_owesNow_20 : decode cX9_owesNow 20 = .ok (.getfield 25, 3) := by decide +kernel
theorem dX9_owesNow_23 : decode cX9_owesNow 23 = .ok (.iload 5, 2) := by decide +kernel
theorem dX9_owesNow_25 : decode cX9_owesNow 25 = .ok (.iaload, 1) := by decide +kernel
theorem dX9_owesNow_26 : decode cX9_owesNow 26 = .ok (.goto 10, 3) := by decide +kernel
theorem dX9_owesNow_29 : decode cX9_owesNow 29 = .ok (.aload_n 0, 1) := by decide +kernel
theorem dX9_owesNow_30 : decode cX9_owesNow 30 = .ok (.getfield 28, 3) := by decide +kernel
theorem dX9_owesNow_33 : decode cX9_owesNow 33 = .ok (.iload 5, 2) := by decide +kernel
theorem dX9_owesNow_35 : decode cX9_owesNow 35 = .ok (.iaload, 1) := by decide +kernel
theorem dX9_owesNow_36 : decode cX9_owesNow 36 = .ok (.iload_n 1, 1) := by decide +kernel
theorem dX9_owesNow_37 : decode cX9_owesNow 37 = .ok (.if_icmp .ne 7, 3) := by decide +kernel
theorem dX9_owesNow_40 : decode cX9_owesNow 40 = .ok (.iconst 1, 1) := by decide +kernel
theorem dX9_owesNow_41 : decode cX9_owesNow 41 = .ok (.goto 4, 3) := by decide +kernel
theorem dX9_owesNow_44 : decode cX9_owesNow 44 = .ok (.iconst 0, 1) := by decide +kernel
theorem dX9_owesNow_45 : decode cX9_owesNow 45 = .ok (.istore 6, 2) := by decide +kernel
theorem dX9_owesNow_47 : decode cX9_owesNow 47 = .ok (.iload 4, 2) := by decide +kernel
theorem dX9_owesNow_49 : decode cX9_owesNow 49 = .ok (.iload 6, 2) := by decide +kernel
theorem dX9_owesNow_51 : decode cX9_owesNow 51 = .ok (.ifCond .eq 30, 3) := by decide +kernel
theorem dX9_owesNow_54 : decode cX9_owesNow 54 = .ok (.aload_n 0, 1) := by decide +kernel
theorem dX9_owesNow_55 : decode cX9_owesNow 55 = .ok (.iload 5, 2) := by decide +kernel
theorem dX9_owesNow_57 : decode cX9_owesNow 57 = .ok (.aload_n 0, 1) := by decide +kernel
theorem dX9_owesNow_58 : decode cX9_owesNow 58 = .ok (.getfield 34, 3) := by decide +kernel
theorem dX9_owesNow_61 : decode cX9_owesNow 61 = .ok (.iload 5, 2) := by decide +kernel
theorem dX9_owesNow_63 : decode cX9_owesNow 63 = .ok (.iaload, 1) := by decide +kernel
theorem dX9_owesNow_64 : decode cX9_owesNow 64 = .ok (.iload_n 2, 1) := by decide +kernel
theorem dX9_owesNow_65 : decode cX9_owesNow 65 = .ok (.invokevirtual 192, 3) := by decide +kernel
theorem dX9_owesNow_68 : decode cX9_owesNow 68 = .ok (.ifCond .eq 13, 3) := by decide +kernel
theorem dX9_owesNow_71 : decode cX9_owesNow 71 = .ok (.aload_n 0, 1) := by decide +kernel
theorem dX9_owesNow_72 : decode cX9_owesNow 72 = .ok (.getfield 31, 3) := by decide +kernel
theorem dX9_owesNow_75 : decode cX9_owesNow 75 = .ok (.iload 5, 2) := by decide +kernel
theorem dX9_owesNow_77 : decode cX9_owesNow 77 = .ok (.iaload, 1) := by decide +kernel
theorem dX9_owesNow_78 : decode cX9_owesNow 78 = .ok (.goto 4, 3) := by decide +kernel
theorem dX9_owesNow_81 : decode cX9_owesNow 81 = .ok (.iconst 0, 1) := by decide +kernel
theorem dX9_owesNow_82 : decode cX9_owesNow 82 = .ok (.iadd, 1) := by decide +kernel
theorem dX9_owesNow_83 : decode cX9_owesNow 83 = .ok (.istore 4, 2) := by decide +kernel
theorem dX9_owesNow_85 : decode cX9_owesNow 85 = .ok (.iinc 5 1, 3) := by decide +kernel
theorem dX9_owesNow_88 : decode cX9_owesNow 88 = .ok (.goto (-82), 3) := by decide +kernel
theorem dX9_owesNow_91 : decode cX9_owesNow 91 = .ok (.iload 4, 2) := by decide +kernel
theorem dX9_owesNow_93 : decode cX9_owesNow 93 = .ok (.ireturn, 1) := by decide +kernel
def fX9_owesNow_L82 (a1 : Int32) (a2 : Int32) (a3 : Int32) (h : fd_H) (K6 : Int32 → Int32 → Option (Int32)) (v5 : Int32) (vs0 : Int32) (vs1 : Int32) : Option (Int32) :=
fd_lt ((vs1 + vs0)) fun x1 =>
K6 x1 (v5 + (1 : Int32))
set_option maxRecDepth 100000 in
set_option maxHeartbeats 4000000 in
theorem sX9_owesNow_L82 {g : fd_G} {hm : fd_H} {a1 : Int32} {a2 : Int32} {a3 : Int32} {h : fd_H} {r : Int32} {K6 : Int32 → Int32 → Option (Int32)} (hK6 : ∀ (v4 : Int32) (v5 : Int32), K6 v4 v5 = some r → fd_A g mX9_owesNow fd_E (fd_rm 2 0 0) (fd_Q g (some (.int r)) fd_X0 (fd_mx hm h) 0 0) 6 [(0, .ref (g.2.2.2 + 73)), (1, .int a1), (2, .int a2), (3, .int a3), (4, .int v4), (5, .int v5)] [] fd_X0 (fd_mx hm h) 0 0) : ∀ (v5 : Int32) (vs0 : Int32) (vs1 : Int32), fX9_owesNow_L82 a1 a2 a3 h K6 v5 vs0 vs1 = some r → fd_A g mX9_owesNow fd_E (fd_rm 2 0 0) (fd_Q g (some (.int r)) fd_X0 (fd_mx hm h) 0 0) 82 [(0, .ref (g.2.2.2 + 73)), (1, .int a1), (2, .int a2), (3, .int a3), (5, .int v5)] [.int vs0, .int vs1] fd_X0 (fd_mx hm h) 0 0 := by
  intro v5 vs0 vs1 hf
  unfold fX9_owesNow_L82 at hf
  refine fr_iadd (pc := 82) dX9_owesNow_82 ?_
  obtain ⟨x1, ex1, hf⟩ := fd_lt_e hf
  refine fr_nmi ex1 ?_
  refine fr_istore (pc := 83) (lv' := [(4, .int x1), (0, .ref (g.2.2.2 + 73)), (1, .int a1), (2, .int a2), (3, .int a3), (5, .int v5)]) dX9_owesNow_83 (by decide) rfl ?_
  refine fr_iinc (pc := 85) (v := (v5 + (1 : Int32))) (lv' := [(5, .int (v5 + (1 : Int32))), (4, .int x1), (0, .ref (g.2.2.2 + 73)), (1, .int a1), (2, .int a2), (3, .int a3)]) dX9_owesNow_85 5 rfl rfl (by decide) rfl ?_
  refine fr_goto (pc := 88) 6 dX9_owesNow_88 (by decide) ?_
  refine fr_loc (lv' := [(0, .ref (g.2.2.2 + 73)), (1, .int a1), (2, .int a2), (3, .int a3), (4, .int x1), (5, .int (v5 + (1 : Int32)))]) [2, 3, 4, 5, 1, 0] rfl ?_
  exact hK6 _ _ hf
def fX9_owesNow_L81 (a1 : Int32) (a2 : Int32) (a3 : Int32) (h : fd_H) (K6 : Int32 → Int32 → Option (Int32)) (v5 : Int32) (vs0 : Int32) : Option (Int32) :=
fX9_owesNow_L82 a1 a2 a3 h K6 v5 (0 : Int32) vs0
set_option maxRecDepth 100000 in
set_option maxHeartbeats 4000000 in
theorem sX9_owesNow_L81 {g : fd_G} {hm : fd_H} {a1 : Int32} {a2 : Int32} {a3 : Int32} {h : fd_H} {r : Int32} {K6 : Int32 → Int32 → Option (Int32)} (hK6 : ∀ (v4 : Int32) (v5 : Int32), K6 v4 v5 = some r → fd_A g mX9_owesNow fd_E (fd_rm 2 0 0) (fd_Q g (some (.int r)) fd_X0 (fd_mx hm h) 0 0) 6 [(0, .ref (g.2.2.2 + 73)), (1, .int a1), (2, .int a2), (3, .int a3), (4, .int v4), (5, .int v5)] [] fd_X0 (fd_mx hm h) 0 0) : ∀ (v5 : Int32) (vs0 : Int32), fX9_owesNow_L81 a1 a2 a3 h K6 v5 vs0 = some r → fd_A g mX9_owesNow fd_E (fd_rm 2 0 0) (fd_Q g (some (.int r)) fd_X0 (fd_mx hm h) 0 0) 81 [(0, .ref (g.2.2.2 + 73)), (1, .int a1), (2, .int a2), (3, .int a3), (5, .int v5)] [.int vs0] fd_X0 (fd_mx hm h) 0 0 := by
  intro v5 vs0 hf
  unfold fX9_owesNow_L81 at hf
  refine fr_iconst (pc := 81) (v := (0 : Int32)) dX9_owesNow_81 (by decide) ?_
  refine fr_loc (lv' := [(0, .ref (g.2.2.2 + 73)), (1, .int a1), (2, .int a2), (3, .int a3), (5, .int v5)]) [0, 1, 2, 3, 4] rfl ?_
  exact sX9_owesNow_L82 hK6  _ _ _ hf
def fX9_owesNow_L45 (a1 : Int32) (a2 : Int32) (a3 : Int32) (h : fd_H) (K6 : Int32 → Int32 → Option (Int32)) (v4 : Int32) (v5 : Int32) (vs0 : Bool) : Option (Int32) :=
if vs0 = true then (
fd_g (fd_in v5 10) (
(fX9_isStanding v5 (h.1 82 v5.toNatClampNeg) a2 h).bind fun r4 =>
if r4 = true then (
fd_g (fd_in v5 10) (
fX9_owesNow_L82 a1 a2 a3 h K6 v5 (h.1 81 v5.toNatClampNeg) v4))
else (
fX9_owesNow_L81 a1 a2 a3 h K6 v5 v4)))
else (
fX9_owesNow_L81 a1 a2 a3 h K6 v5 v4)
set_option maxRecDepth 100000 in
set_option maxHeartbeats 4000000 in
theorem sX9_owesNow_L45 {g : fd_G} {hm : fd_H} {a1 : Int32} {a2 : Int32} {a3 : Int32} {h : fd_H} {r : Int32} {K6 : Int32 → Int32 → Option (Int32)} (hK6 : ∀ (v4 : Int32) (v5 : Int32), K6 v4 v5 = some r → fd_A g mX9_owesNow fd_E (fd_rm 2 0 0) (fd_Q g (some (.int r)) fd_X0 (fd_mx hm h) 0 0) 6 [(0, .ref (g.2.2.2 + 73)), (1, .int a1), (2, .int a2), (3, .int a3), (4, .int v4), (5, .int v5)] [] fd_X0 (fd_mx hm h) 0 0) : ∀ (v4 : Int32) (v5 : Int32) (vs0 : Bool), fX9_owesNow_L45 a1 a2 a3 h K6 v4 v5 vs0 = some r → fd_A g mX9_owesNow fd_E (fd_rm 2 0 0) (fd_Q g (some (.int r)) fd_X0 (fd_mx hm h) 0 0) 45 [(0, .ref (g.2.2.2 + 73)), (1, .int a1), (2, .int a2), (3, .int a3), (4, .int v4), (5, .int v5)] [.int (fd_b vs0)] fd_X0 (fd_mx hm h) 0 0 := by
  intro v4 v5 vs0 hf
  unfold fX9_owesNow_L45 at hf
  refine fr_istore (pc := 45) (lv' := [(6, .int (fd_b vs0)), (0, .ref (g.2.2.2 + 73)), (1, .int a1), (2, .int a2), (3, .int a3), (4, .int v4), (5, .int v5)]) dX9_owesNow_45 (by decide) rfl ?_
  refine fr_iload (pc := 47) dX9_owesNow_47 5 rfl ?_
  refine fr_iload (pc := 49) dX9_owesNow_49 0 rfl ?_
  refine fr_bz (pc := 51) 81 dX9_owesNow_51 (by decide) (fun c1 => ?_) (fun c1 => ?_)
  · have hf := fd_f c1 hf
    refine fr_loc (lv' := [(0, .ref (g.2.2.2 + 73)), (1, .int a1), (2, .int a2), (3, .int a3), (5, .int v5)]) [1, 2, 3, 4, 6] rfl ?_
    exact sX9_owesNow_L81 hK6  _ _ hf
  · have hf := fd_t c1 hf
    refine fr_aload_n (pc := 54) dX9_owesNow_54 1 rfl rfl ?_
    refine fr_iload (pc := 55) dX9_owesNow_55 6 rfl ?_
    refine fr_aload_n (pc := 57) dX9_owesNow_57 1 rfl rfl ?_
    refine fr_getR (pc := 58) dX9_owesNow_58 fl_X9_34 (by decide) rfl rfl ?_
    refine fr_iload (pc := 61) dX9_owesNow_61 6 rfl ?_
    obtain ⟨g2, hf⟩ := fd_g_e hf
    refine vm_iald (pc := 63) dX9_owesNow_63 (by decide) (by decide) rfl g2 ?_
    refine fr_iload_n (pc := 64) dX9_owesNow_64 3 rfl rfl ?_
    obtain ⟨r4, hc3, hf⟩ := fd_bi hf
    refine fr_callVz (pc := 65) (av := [.int v5, .int (h.1 82 v5.toNatClampNeg), .int a2]) dX9_owesNow_65 yy_X9_isStanding kw_258 (by decide) rfl rfl rfl rfl (Nat.le_of_ble_eq_true rfl) ⟨Nat.le_of_ble_eq_true rfl, Nat.le_of_ble_eq_true rfl, Nat.zero_le _, Nat.zero_le _⟩ (sX9_isStanding hc3) ?_
    refine fr_bz (pc := 68) 81 dX9_owesNow_68 (by decide) (fun c5 => ?_) (fun c5 => ?_)
    · have hf := fd_f c5 hf
      refine fr_loc (lv' := [(0, .ref (g.2.2.2 + 73)), (1, .int a1), (2, .int a2), (3, .int a3), (5, .int v5)]) [1, 2, 3, 4, 6] rfl ?_
      exact sX9_owesNow_L81 hK6  _ _ hf
    · have hf := fd_t c5 hf
      refine fr_aload_n (pc := 71) dX9_owesNow_71 1 rfl rfl ?_
      refine fr_getR (pc := 72) dX9_owesNow_72 fl_X9_31 (by decide) rfl rfl ?_
      refine fr_iload (pc := 75) dX9_owesNow_75 6 rfl ?_
      obtain ⟨g6, hf⟩ := fd_g_e hf
      refine vm_iald (pc := 77) dX9_owesNow_77 (by decide) (by decide) rfl g6 ?_
      refine fr_goto (pc := 78) 82 dX9_owesNow_78 (by decide) ?_
      refine fr_loc (lv' := [(0, .ref (g.2.2.2 + 73)), (1, .int a1), (2, .int a2), (3, .int a3), (5, .int v5)]) [1, 2, 3, 4, 6] rfl ?_
      exact sX9_owesNow_L82 hK6  _ _ _ hf
def fX9_owesNow_L36 (a1 : Int32) (a2 : Int32) (a3 : Int32) (h : fd_H) (K6 : Int32 → Int32 → Option (Int32)) (v4 : Int32) (v5 : Int32) (vs0 : Int32) : Option (Int32) :=
if vs0 = a1 then (
fX9_owesNow_L45 a1 a2 a3 h K6 v4 v5 true)
else (
fX9_owesNow_L45 a1 a2 a3 h K6 v4 v5 false)
set_option maxRecDepth 100000 in
set_option maxHeartbeats 4000000 in
theorem sX9_owesNow_L36 {g : fd_G} {hm : fd_H} {a1 : Int32} {a2 : Int32} {a3 : Int32} {h : fd_H} {r : Int32} {K6 : Int32 → Int32 → Option (Int32)} (hK6 : ∀ (v4 : Int32) (v5 : Int32), K6 v4 v5 = some r → fd_A g mX9_owesNow fd_E (fd_rm 2 0 0) (fd_Q g (some (.int r)) fd_X0 (fd_mx hm h) 0 0) 6 [(0, .ref (g.2.2.2 + 73)), (1, .int a1), (2, .int a2), (3, .int a3), (4, .int v4), (5, .int v5)] [] fd_X0 (fd_mx hm h) 0 0) : ∀ (v4 : Int32) (v5 : Int32) (vs0 : Int32), fX9_owesNow_L36 a1 a2 a3 h K6 v4 v5 vs0 = some r → fd_A g mX9_owesNow fd_E (fd_rm 2 0 0) (fd_Q g (some (.int r)) fd_X0 (fd_mx hm h) 0 0) 36 [(0, .ref (g.2.2.2 + 73)), (1, .int a1), (2, .int a2), (3, .int a3), (4, .int v4), (5, .int v5)] [.int vs0] fd_X0 (fd_mx hm h) 0 0 := by
  intro v4 v5 vs0 hf
  unfold fX9_owesNow_L36 at hf
  refine fr_iload_n (pc := 36) dX9_owesNow_36 1 rfl rfl ?_
  refine fr_icmp_ne (pc := 37) 44 dX9_owesNow_37 (by decide) (fun c1 => ?_) (fun c1 => ?_)
  · have hf := fd_f c1 hf
    refine fr_iconst (pc := 44) (v := (0 : Int32)) dX9_owesNow_44 (by decide) ?_
    refine fr_loc (lv' := [(0, .ref (g.2.2.2 + 73)), (1, .int a1), (2, .int a2), (3, .int a3), (4, .int v4), (5, .int v5)]) [0, 1, 2, 3, 4, 5] rfl ?_
    exact sX9_owesNow_L45 hK6  _ _ _ hf
  · have hf := fd_t c1 hf
    refine fr_iconst (pc := 40) (v := (1 : Int32)) dX9_owesNow_40 (by decide) ?_
    refine fr_goto (pc := 41) 45 dX9_owesNow_41 (by decide) ?_
    refine fr_loc (lv' := [(0, .ref (g.2.2.2 + 73)), (1, .int a1), (2, .int a2), (3, .int a3), (4, .int v4), (5, .int v5)]) [0, 1, 2, 3, 4, 5] rfl ?_
    exact sX9_owesNow_L45 hK6  _ _ _ hf
def fX9_owesNow_L6 (a1 : Int32) (a2 : Int32) (a3 : Int32) (h : fd_H) : Nat → Int32 → Int32 → Option (Int32)
  | 0 => fun _ _ => none
  | n + 1 => fun v4 v5 =>
if (h.1 73 7) ≤ v5 then (
some (v4))
else (
if a3 = 0 then (
fd_g (fd_in v5 10) (
fX9_owesNow_L36 a1 a2 a3 h (fX9_owesNow_L6 a1 a2 a3 h n) v4 v5 (h.1 79 v5.toNatClampNeg)))
else (
fd_g (fd_in v5 10) (
fX9_owesNow_L36 a1 a2 a3 h (fX9_owesNow_L6 a1 a2 a3 h n) v4 v5 (h.1 80 v5.toNatClampNeg))))
set_option maxRecDepth 100000 in
set_option maxHeartbeats 4000000 in
theorem sX9_owesNow_L6 {g : fd_G} {hm : fd_H} {a1 : Int32} {a2 : Int32} {a3 : Int32} {h : fd_H} {r : Int32} : ∀ (n : Nat) (v4 : Int32) (v5 : Int32), fX9_owesNow_L6 a1 a2 a3 h n v4 v5 = some r → fd_A g mX9_owesNow fd_E (fd_rm 2 0 0) (fd_Q g (some (.int r)) fd_X0 (fd_mx hm h) 0 0) 6 [(0, .ref (g.2.2.2 + 73)), (1, .int a1), (2, .int a2), (3, .int a3), (4, .int v4), (5, .int v5)] [] fd_X0 (fd_mx hm h) 0 0 := by
  intro n
  induction n with
  | zero =>
    intro _ _ hf
    cases hf
  | succ n ih =>
    intro v4 v5 hf
    rw [fX9_owesNow_L6] at hf
    refine fr_iload (pc := 6) dX9_owesNow_6 5 rfl ?_
    refine fr_aload_n (pc := 8) dX9_owesNow_8 0 rfl rfl ?_
    refine vm_getI (pc := 9) dX9_owesNow_9 fl_X9_108 (by decide) (by decide) rfl rfl ?_
    refine fr_icmp_ge (pc := 12) 91 dX9_owesNow_12 (by decide) (fun c1 => ?_) (fun c1 => ?_)
    · have hf := fd_t c1 hf
      refine fr_iload (pc := 91) dX9_owesNow_91 4 rfl ?_
      exact fr_iretP (x := v4) (pc := 93) dX9_owesNow_93 rfl hf
    · have hf := fd_f c1 hf
      refine fr_iload_n (pc := 15) dX9_owesNow_15 3 rfl rfl ?_
      refine fr_if_ne (pc := 16) 29 dX9_owesNow_16 (by decide) (fun c2 => ?_) (fun c2 => ?_)
      · have hf := fd_f c2 hf
        refine fr_aload_n (pc := 29) dX9_owesNow_29 0 rfl rfl ?_
        refine fr_getR (pc := 30) dX9_owesNow_30 fl_X9_28 (by decide) rfl rfl ?_
        refine fr_iload (pc := 33) dX9_owesNow_33 5 rfl ?_
        obtain ⟨g3, hf⟩ := fd_g_e hf
        refine vm_iald (pc := 35) dX9_owesNow_35 (by decide) (by decide) rfl g3 ?_
        refine fr_loc (lv' := [(0, .ref (g.2.2.2 + 73)), (1, .int a1), (2, .int a2), (3, .int a3), (4, .int v4), (5, .int v5)]) [0, 1, 2, 3, 4, 5] rfl ?_
        exact sX9_owesNow_L36 ih  _ _ _ hf
      · have hf := fd_t c2 hf
        refine fr_aload_n (pc := 19) dX9_owesNow_19 0 rfl rfl ?_
        refine fr_getR (pc := 20) dX9_owesNow_20 fl_X9_25 (by decide) rfl rfl ?_
        refine fr_iload (pc := 23) dX9_owesNow_23 5 rfl ?_
        obtain ⟨g4, hf⟩ := fd_g_e hf
        refine vm_iald (pc := 25) dX9_owesNow_25 (by decide) (by decide) rfl g4 ?_
        refine fr_goto (pc := 26) 36 dX9_owesNow_26 (by decide) ?_
        refine fr_loc (lv' := [(0, .ref (g.2.2.2 + 73)), (1, .int a1), (2, .int a2), (3, .int a3), (4, .int v4), (5, .int v5)]) [0, 1, 2, 3, 4, 5] rfl ?_
        exact sX9_owesNow_L36 ih  _ _ _ hf
def fX9_owesNow (a1 : Int32) (a2 : Int32) (a3 : Int32) (h : fd_H) : Option (Int32) :=
fX9_owesNow_L6 a1 a2 a3 h fd_fu (0 : Int32) (0 : Int32)
set_option maxRecDepth 100000 in
set_option maxHeartbeats 4000000 in
theorem sX9_owesNow {g : fd_G} {hm : fd_H} {a1 : Int32} {a2 : Int32} {a3 : Int32} {h : fd_H} {r : Int32} (hf : fX9_owesNow a1 a2 a3 h = some r) : fd_S g mX9_owesNow 2 [.ref (g.2.2.2 + 73), .int a1, .int a2, .int a3] fd_X0 (fd_mx hm h) (some (.int r)) fd_X0 (fd_mx hm h) 0 0 := by
  refine fd_S.of (by decide +kernel) (Nat.le_of_ble_eq_true rfl) ?_
  unfold fX9_owesNow at hf
  refine fr_loc (lv' := [(0, .ref (g.2.2.2 + 73)), (1, .int a1), (2, .int a2), (3, .int a3)]) [0, 1, 2, 3] rfl ?_
  refine fr_iconst (pc := 0) (v := (0 : Int32)) dX9_owesNow_0 (by decide) ?_
  refine fr_istore (pc := 1) (lv' := [(4, .int (0 : Int32)), (0, .ref (g.2.2.2 + 73)), (1, .int a1), (2, .int a2), (3, .int a3)]) dX9_owesNow_1 (by decide) rfl ?_
  refine fr_iconst (pc := 3) (v := (0 : Int32)) dX9_owesNow_3 (by decide) ?_
  refine fr_istore (pc := 4) (lv' := [(5, .int (0 : Int32)), (4, .int (0 : Int32)), (0, .ref (g.2.2.2 + 73)), (1, .int a1), (2, .int a2), (3, .int a3)]) dX9_owesNow_4 (by decide) rfl ?_
  refine fr_loc (lv' := [(0, .ref (g.2.2.2 + 73)), (1, .int a1), (2, .int a2), (3, .int a3), (4, .int (0 : Int32)), (5, .int (0 : Int32))]) [2, 3, 4, 5, 1, 0] rfl ?_
  exact sX9_owesNow_L6 _  _ _ hf
theorem dX9_seen_0 : decode cX9_seen 0 = .ok (.iload_n 1, 1) := by decide +kernel
theorem dX9_seen_1 : decode cX9_seen 1 = .ok (.invokestatic 146, 3) := by decide +kernel
theorem dX9_seen_4 : decode cX9_seen 4 = .ok (.ifCond .eq 19, 3) := by decide +kernel
theorem dX9_seen_7 : decode cX9_seen 7 = .ok (.iload_n 2, 1) := by decide +kernel
theorem dX9_seen_8 : decode cX9_seen 8 = .ok (.invokestatic 149, 3) := by decide +kernel
theorem dX9_seen_11 : decode cX9_seen 11 = .ok (.ifCond .eq 12, 3) := by decide +kernel
theorem dX9_seen_14 : decode cX9_seen 14 = .ok (.iload_n 3, 1) := by decide +kernel
theorem dX9_seen_15 : decode cX9_seen 15 = .ok (.iconst 0, 1) := by decide +kernel
theorem dX9_seen_16 : decode cX9_seen 16 = .ok (.iconst 1, 1) := by decide +kernel
theorem dX9_seen_17 : decode cX9_seen 17 = .ok (.invokestatic 89, 3) := by decide +kernel
theorem dX9_seen_20 : decode cX9_seen 20 = .ok (.ifCond .ne 6, 3) := by decide +kernel
theorem dX9_seen_23 : decode cX9_seen 23 = .ok (.bipush (-2), 2) := by decide +kernel
theorem dX9_seen_25 : decode cX9_seen 25 = .ok (.ireturn, 1) := by decide +kernel
theorem dX9_seen_26 : decode cX9_seen 26 = .ok (.aload_n 0, 1) := by decide +kernel
theorem dX9_seen_27 : decode cX9_seen 27 = .ok (.getfield 235, 3) := by decide +kernel
theorem dX9_seen_30 : decode cX9_seen 30 = .ok (.bipush 8, 2) := by decide +kernel
theorem dX9_seen_32 : decode cX9_seen 32 = .ok (.if_icmp .ne 6, 3) := by decide +kernel
theorem dX9_seen_35 : decode cX9_seen 35 = .ok (.bipush (-4), 2) := by decide +kernel
theorem dX9_seen_37 : decode cX9_seen 37 = .ok (.ireturn, 1) := by decide +kernel
theorem dX9_seen_38 : decode cX9_seen 38 = .ok (.aload_n 0, 1) := by decide +kernel
theorem dX9_seen_39 : decode cX9_seen 39 = .ok (.getfield 59, 3) := by decide +kernel
theorem dX9_seen_42 : decode cX9_seen 42 = .ok (.aload_n 0, 1) := by decide +kernel
theorem dX9_seen_43 : decode cX9_seen 43 = .ok (.getfield 235, 3) := by decide +kernel
theorem dX9_seen_46 : decode cX9_seen 46 = .ok (.iload_n 1, 1) := by decide +kernel
theorem dX9_seen_47 : decode cX9_seen 47 = .ok (.iastore, 1) := by decide +kernel
theorem dX9_seen_48 : decode cX9_seen 48 = .ok (.aload_n 0, 1) := by decide +kernel
theorem dX9_seen_49 : decode cX9_seen 49 = .ok (.getfield 62, 3) := by decide +kernel
theorem dX9_seen_52 : decode cX9_seen 52 = .ok (.aload_n 0, 1) := by decide +kernel
theorem dX9_seen_53 : decode cX9_seen 53 = .ok (.getfield 235, 3) := by decide +kernel
theorem dX9_seen_56 : decode cX9_seen 56 = .ok (.iload_n 2, 1) := by decide +kernel
theorem dX9_seen_57 : decode cX9_seen 57 = .ok (.iastore, 1) := by decide +kernel
theorem dX9_seen_58 : decode cX9_seen 58 = .ok (.aload_n 0, 1) := by decide +kernel
theorem dX9_seen_59 : decode cX9_seen 59 = .ok (.getfield 65, 3) := by decide +kernel
theorem dX9_seen_62 : decode cX9_seen 62 = .ok (.aload_n 0, 1) := by decide +kernel
theorem dX9_seen_63 : decode cX9_seen 63 = .ok (.getfield 235, 3) := by decide +kernel
theorem dX9_seen_66 : decode cX9_seen 66 = .ok (.iload_n 3, 1) := by decide +kernel
theorem dX9_seen_67 : decode cX9_seen 67 = .ok (.iastore, 1) := by decide +kernel
theorem dX9_seen_68 : decode cX9_seen 68 = .ok (.aload_n 0, 1) := by decide +kernel
theorem dX9_seen_69 : decode cX9_seen 69 = .ok (.dup, 1) := by decide +kernel
theorem dX9_seen_70 : decode cX9_seen 70 = .ok (.getfield 235, 3) := by decide +kernel
theorem dX9_seen_73 : decode cX9_seen 73 = .ok (.iconst 1, 1) := by decide +kernel
theorem dX9_seen_74 : decode cX9_seen 74 = .ok (.iadd, 1) := by decide +kernel
theorem dX9_seen_75 : decode cX9_seen 75 = .ok (.putfield 235, 3) := by decide +kernel
theorem dX9_seen_78 : decode cX9_seen 78 = .ok (.aload_n 0, 1) := by decide +kernel
theorem dX9_seen_79 : decode cX9_seen 79 = .ok (.getfield 235, 3) := by decide +kernel
theorem dX9_seen_82 : decode cX9_seen 82 = .ok (.ireturn, 1) := by decide +kernel
def fX9_seen (a1 : Int32) (a2 : Int32) (a3 : Int32) (h : fd_H) : Option (Int32 × fd_H) :=
(fX9_isForty a1).bind fun r2 =>
if r2 = true then (
(fX9_isEight a2).bind fun r5 =>
if r5 = true then (
(fX9_in a3 (0 : Int32) (1 : Int32)).bind fun r8 =>
if r8 = true then (
if (h.1 73 21) = (8 : Int32) then (
some ((-4 : Int32), h))
else (
fd_g (fd_in (h.1 73 21) 8) (
fd_lt (fd_ui h 90 (h.1 73 21).toNatClampNeg a1) fun h12 =>
fd_g (fd_in (h12.1 73 21) 8) (
fd_lt (fd_ui h12 91 (h12.1 73 21).toNatClampNeg a2) fun h14 =>
fd_g (fd_in (h14.1 73 21) 8) (
fd_lt (fd_ui h14 92 (h14.1 73 21).toNatClampNeg a3) fun h16 =>
fd_lt (fd_ui h16 73 21 ((h16.1 73 21) + (1 : Int32))) fun h17 =>
some ((h17.1 73 21), h17))))))
else (
some ((-2 : Int32), h)))
else (
some ((-2 : Int32), h)))
else (
some ((-2 : Int32), h))
set_option maxRecDepth 100000 in
set_option maxHeartbeats 4000000 in
theorem sX9_seen {g : fd_G} {hm : fd_H} {a1 : Int32} {a2 : Int32} {a3 : Int32} {r : Int32 × fd_H} {h : fd_H} (hf : fX9_seen a1 a2 a3 h = some r) : fd_S g mX9_seen 2 [.ref (g.2.2.2 + 73), .int a1, .int a2, .int a3] fd_X0 (fd_mx hm h) (some (.int r.1)) fd_X0 (fd_mx hm r.2) 0 0 := by
  refine fd_S.of (by decide +kernel) (Nat.le_of_ble_eq_true rfl) ?_
  unfold fX9_seen at hf
  refine fr_loc (lv' := [(0, .ref (g.2.2.2 + 73)), (1, .int a1), (2, .int a2), (3, .int a3)]) [0, 1, 2, 3] rfl ?_
  refine fr_iload_n (pc := 0) dX9_seen_0 1 rfl rfl ?_
  obtain ⟨r2, hc1, hf⟩ := fd_bi hf
  refine fr_callSz (pc := 1) (av := [.int a1]) dX9_seen_1 yy_X9_isForty kw_246 rfl rfl (Nat.le_of_ble_eq_true rfl) ⟨Nat.le_of_ble_eq_true rfl, Nat.le_of_ble_eq_true rfl, Nat.zero_le _, Nat.zero_le _⟩ (sX9_isForty hc1) ?_
  refine fr_bz (pc := 4) 23 dX9_seen_4 (by decide) (fun c3 => ?_) (fun c3 => ?_)
  · have hf := fd_f c3 hf
    refine fr_bipush (pc := 23) (v := (-2 : Int32)) dX9_seen_23 (by decide) ?_
    exact vm_iretW (x := (-2 : Int32)) (pc := 25) dX9_seen_25 rfl hf
  · have hf := fd_t c3 hf
    refine fr_iload_n (pc := 7) dX9_seen_7 2 rfl rfl ?_
    obtain ⟨r5, hc4, hf⟩ := fd_bi hf
    refine fr_callSz (pc := 8) (av := [.int a2]) dX9_seen_8 yy_X9_isEight kw_249 rfl rfl (Nat.le_of_ble_eq_true rfl) ⟨Nat.le_of_ble_eq_true rfl, Nat.le_of_ble_eq_true rfl, Nat.zero_le _, Nat.zero_le _⟩ (sX9_isEight hc4) ?_
    refine fr_bz (pc := 11) 23 dX9_seen_11 (by decide) (fun c6 => ?_) (fun c6 => ?_)
    · have hf := fd_f c6 hf
      refine fr_bipush (pc := 23) (v := (-2 : Int32)) dX9_seen_23 (by decide) ?_
      exact vm_iretW (x := (-2 : Int32)) (pc := 25) dX9_seen_25 rfl hf
    · have hf := fd_t c6 hf
      refine fr_iload_n (pc := 14) dX9_seen_14 3 rfl rfl ?_
      refine fr_iconst (pc := 15) (v := (0 : Int32)) dX9_seen_15 (by decide) ?_
      refine fr_iconst (pc := 16) (v := (1 : Int32)) dX9_seen_16 (by decide) ?_
      obtain ⟨r8, hc7, hf⟩ := fd_bi hf
      refine fr_callSz (pc := 17) (av := [.int a3, .int (0 : Int32), .int (1 : Int32)]) dX9_seen_17 yy_X9_in kw_148 rfl rfl (Nat.le_of_ble_eq_true rfl) ⟨Nat.le_of_ble_eq_true rfl, Nat.le_of_ble_eq_true rfl, Nat.zero_le _, Nat.zero_le _⟩ (sX9_in hc7) ?_
      refine fr_bn (pc := 20) 26 dX9_seen_20 (by decide) (fun c9 => ?_) (fun c9 => ?_)
      · have hf := fd_t c9 hf
        refine fr_aload_n (pc := 26) dX9_seen_26 0 rfl rfl ?_
        refine vm_getI (pc := 27) dX9_seen_27 fl_X9_235 (by decide) (by decide) rfl rfl ?_
        refine fr_bipush (pc := 30) (v := (8 : Int32)) dX9_seen_30 (by decide) ?_
        refine fr_icmp_ne (pc := 32) 38 dX9_seen_32 (by decide) (fun c10 => ?_) (fun c10 => ?_)
        · have hf := fd_f c10 hf
          refine fr_aload_n (pc := 38) dX9_seen_38 0 rfl rfl ?_
          refine fr_getR (pc := 39) dX9_seen_39 fl_X9_59 (by decide) rfl rfl ?_
          refine fr_aload_n (pc := 42) dX9_seen_42 0 rfl rfl ?_
          refine vm_getI (pc := 43) dX9_seen_43 fl_X9_235 (by decide) (by decide) rfl rfl ?_
          refine fr_iload_n (pc := 46) dX9_seen_46 1 rfl rfl ?_
          obtain ⟨g11, hf⟩ := fd_g_e hf
          obtain ⟨h12, eh12, hf⟩ := fd_lt_e hf
          refine vm_iast (pc := 47) dX9_seen_47 (by decide) (by decide) rfl g11 eh12 ?_
          refine fr_aload_n (pc := 48) dX9_seen_48 0 rfl rfl ?_
          refine fr_getR (pc := 49) dX9_seen_49 fl_X9_62 (by decide) rfl rfl ?_
          refine fr_aload_n (pc := 52) dX9_seen_52 0 rfl rfl ?_
          refine vm_getI (pc := 53) dX9_seen_53 fl_X9_235 (by decide) (by decide) rfl rfl ?_
          refine fr_iload_n (pc := 56) dX9_seen_56 2 rfl rfl ?_
          obtain ⟨g13, hf⟩ := fd_g_e hf
          obtain ⟨h14, eh14, hf⟩ := fd_lt_e hf
          refine vm_iast (pc := 57) dX9_seen_57 (by decide) (by decide) rfl g13 eh14 ?_
          refine fr_aload_n (pc := 58) dX9_seen_58 0 rfl rfl ?_
          refine fr_getR (pc := 59) dX9_seen_59 fl_X9_65 (by decide) rfl rfl ?_
          refine fr_aload_n (pc := 62) dX9_seen_62 0 rfl rfl ?_
          refine vm_getI (pc := 63) dX9_seen_63 fl_X9_235 (by decide) (by decide) rfl rfl ?_
          refine fr_iload_n (pc := 66) dX9_seen_66 3 rfl rfl ?_
          obtain ⟨g15, hf⟩ := fd_g_e hf
          obtain ⟨h16, eh16, hf⟩ := fd_lt_e hf
          refine vm_iast (pc := 67) dX9_seen_67 (by decide) (by decide) rfl g15 eh16 ?_
          refine fr_aload_n (pc := 68) dX9_seen_68 0 rfl rfl ?_
          refine fr_dup (pc := 69) dX9_seen_69 rfl ?_
          refine vm_getI (pc := 70) dX9_seen_70 fl_X9_235 (by decide) (by decide) rfl rfl ?_
          refine fr_iconst (pc := 73) (v := (1 : Int32)) dX9_seen_73 (by decide) ?_
          refine fr_iadd (pc := 74) dX9_seen_74 ?_
          obtain ⟨h17, eh17, hf⟩ := fd_lt_e hf
          refine vm_putI (pc := 75) dX9_seen_75 fl_X9_235 ft_X9_21 (by decide) (by decide) rfl rfl eh17 ?_
          refine fr_aload_n (pc := 78) dX9_seen_78 0 rfl rfl ?_
          refine vm_getI (pc := 79) dX9_seen_79 fl_X9_235 (by decide) (by decide) rfl rfl ?_
          exact vm_iretW (x := (h17.1 73 21)) (pc := 82) dX9_seen_82 rfl hf
        · have hf := fd_t c10 hf
          refine fr_bipush (pc := 35) (v := (-4 : Int32)) dX9_seen_35 (by decide) ?_
          exact vm_iretW (x := (-4 : Int32)) (pc := 37) dX9_seen_37 rfl hf
      · have hf := fd_f c9 hf
        refine fr_bipush (pc := 23) (v := (-2 : Int32)) dX9_seen_23 (by decide) ?_
        exact vm_iretW (x := (-2 : Int32)) (pc := 25) dX9_seen_25 rfl hf
theorem dX9_sheet_0 : decode cX9_sheet 0 = .ok (.iload_n 1, 1) := by decide +kernel
theorem dX9_sheet_1 : decode cX9_sheet 1 = .ok (.invokestatic 238, 3) := by decide +kernel
theorem dX9_sheet_4 : decode cX9_sheet 4 = .ok (.ifCond .eq 18, 3) := by decide +kernel
theorem dX9_sheet_7 : decode cX9_sheet 7 = .ok (.iload_n 2, 1) := by decide +kernel
theorem dX9_sheet_8 : decode cX9_sheet 8 = .ok (.iconst 0, 1) := by decide +kernel
theorem dX9_sheet_9 : decode cX9_sheet 9 = .ok (.iconst 2, 1) := by decide +kernel
theorem dX9_sheet_10 : decode cX9_sheet 10 = .ok (.invokestatic 89, 3) := by decide +kernel
theorem dX9_sheet_13 : decode cX9_sheet 13 = .ok (.ifCond .eq 9, 3) := by decide +kernel
theorem dX9_sheet_16 : decode cX9_sheet 16 = .ok (.iload_n 3, 1) := by decide +kernel
theorem dX9_sheet_17 : decode cX9_sheet 17 = .ok (.bipush 48, 2) := by decide +kernel
theorem dX9_sheet_19 : decode cX9_sheet 19 = .ok (.if_icmp .le 6, 3) := by decide +kernel
theorem dX9_sheet_22 : decode cX9_sheet 22 = .ok (.bipush (-2), 2) := by decide +kernel
theorem dX9_sheet_24 : decode cX9_sheet 24 = .ok (.ireturn, 1) := by decide +kernel
theorem dX9_sheet_25 : decode cX9_sheet 25 = .ok (.iload_n 3, 1) := by decide +kernel
theorem dX9_sheet_26 : decode cX9_sheet 26 = .ok (.ifCond .ge 9, 3) := by decide +kernel
theorem dX9_sheet_29 : decode cX9_sheet 29 = .ok (.aload_n 0, 1) := by decide +kernel
theorem dX9_sheet_30 : decode cX9_sheet 30 = .ok (.iconst 5, 1) := by decide +kernel
theorem dX9_sheet_31 : decode cX9_sheet 31 = .ok (.invokevirtual 241, 3) := by decide +kernel
theorem dX9_sheet_34 : decode cX9_sheet 34 = .ok (.ireturn, 1) := by decide +kernel
theorem dX9_sheet_35 : decode cX9_sheet 35 = .ok (.aload_n 0, 1) := by decide +kernel
theorem dX9_sheet_36 : decode cX9_sheet 36 = .ok (.getfield 68, 3) := by decide +kernel
theorem dX9_sheet_39 : decode cX9_sheet 39 = .ok (.iload_n 1, 1) := by decide +kernel
theorem dX9_sheet_40 : decode cX9_sheet 40 = .ok (.iconst 1, 1) := by decide +kernel
theorem dX9_sheet_41 : decode cX9_sheet 41 = .ok (.bastore, 1) := by decide +kernel
theorem dX9_sheet_42 : decode cX9_sheet 42 = .ok (.aload_n 0, 1) := by decide +kernel
theorem dX9_sheet_43 : decode cX9_sheet 43 = .ok (.getfield 71, 3) := by decide +kernel
theorem dX9_sheet_46 : decode cX9_sheet 46 = .ok (.iload_n 1, 1) := by decide +kernel
theorem dX9_sheet_47 : decode cX9_sheet 47 = .ok (.iload_n 2, 1) := by decide +kernel
theorem dX9_sheet_48 : decode cX9_sheet 48 = .ok (.iastore, 1) := by decide +kernel
theorem dX9_sheet_49 : decode cX9_sheet 49 = .ok (.aload_n 0, 1) := by decide +kernel
theorem dX9_sheet_50 : decode cX9_sheet 50 = .ok (.getfield 74, 3) := by decide +kernel
theorem dX9_sheet_53 : decode cX9_sheet 53 = .ok (.iload_n 1, 1) := by decide +kernel
theorem dX9_sheet_54 : decode cX9_sheet 54 = .ok (.iload_n 3, 1) := by decide +kernel
theorem dX9_sheet_55 : decode cX9_sheet 55 = .ok (.iastore, 1) := by decide +kernel
theorem dX9_sheet_56 : decode cX9_sheet 56 = .ok (.iconst 0, 1) := by decide +kernel
theorem dX9_sheet_57 : decode cX9_sheet 57 = .ok (.istore 4, 2) := by decide +kernel
theorem dX9_sheet_59 : decode cX9_sheet 59 = .ok (.iload 4, 2) := by decide +kernel
theorem dX9_sheet_61 : decode cX9_sheet 61 = .ok (.bipush 48, 2) := by decide +kernel
theorem dX9_sheet_63 : decode cX9_sheet 63 = .ok (.if_icmp .ge 22, 3) := by decide +kernel
theorem dX9_sheet_66 : decode cX9_sheet 66 = .ok (.aload_n 0, 1) := by decide +kernel
theorem dX9_sheet_67 : decode cX9_sheet 67 = .ok (.getfield 77, 3) := by decide +kernel
theorem dX9_sheet_70 : decode cX9_sheet 70 = .ok (.bipush 48, 2) := by decide +kernel
theorem dX9_sheet_72 : decode cX9_sheet 72 = .ok (.iload_n 1, 1) := by decide +kernel
theorem dX9_sheet_73 : decode cX9_sheet 73 = .ok (.imul, 1) := by decide +kernel
theorem dX9_sheet_74 : decode cX9_sheet 74 = .ok (.iload 4, 2) := by decide +kernel
theorem dX9_sheet_76 : decode cX9_sheet 76 = .ok (.iadd, 1) := by decide +kernel
theorem dX9_sheet_77 : decode cX9_sheet 77 = .ok (.iconst 0, 1) := by decide +kernel
theorem dX9_sheet_78 : decode cX9_sheet 78 = .ok (.iastore, 1) := by decide +kernel
theorem dX9_sheet_79 : decode cX9_sheet 79 = .ok (.iinc 4 1, 3) := by decide +kernel
theorem dX9_sheet_82 : decode cX9_sheet 82 = .ok (.goto (-23), 3) := by decide +kernel
theorem dX9_sheet_85 : decode cX9_sheet 85 = .ok (.iload_n 3, 1) := by decide +kernel
theorem dX9_sheet_86 : decode cX9_sheet 86 = .ok (.ireturn, 1) := by decide +kernel
def fX9_sheet_L59 (a1 : Int32) (a2 : Int32) (a3 : Int32) : Nat → Int32 → fd_H → Option (Int32 × fd_H)
  | 0 => fun _ _ => none
  | n + 1 => fun v4 h =>
if (48 : Int32) ≤ v4 then (
some (a3, h))
else (
fd_g (fd_in (((48 : Int32) * a1) + v4) 192) (
fd_lt (fd_ui h 96 (((48 : Int32) * a1) + v4).toNatClampNeg (0 : Int32)) fun h3 =>
fX9_sheet_L59 a1 a2 a3 n (v4 + (1 : Int32)) h3))
set_option maxRecDepth 100000 in
set_option maxHeartbeats 4000000 in
theorem sX9_sheet_L59 {g : fd_G} {hm : fd_H} {a1 : Int32} {a2 : Int32} {a3 : Int32} {r : Int32 × fd_H} : ∀ (n : Nat) (v4 : Int32) (h : fd_H), fX9_sheet_L59 a1 a2 a3 n v4 h = some r → fd_A g mX9_sheet fd_E (fd_rm 2 0 0) (fd_Q g (some (.int r.1)) fd_X0 (fd_mx hm r.2) 0 0) 59 [(0, .ref (g.2.2.2 + 73)), (1, .int a1), (3, .int a3), (4, .int v4)] [] fd_X0 (fd_mx hm h) 0 0 := by
  intro n
  induction n with
  | zero =>
    intro _ _ hf
    cases hf
  | succ n ih =>
    intro v4 h hf
    rw [fX9_sheet_L59] at hf
    refine fr_iload (pc := 59) dX9_sheet_59 3 rfl ?_
    refine fr_bipush (pc := 61) (v := (48 : Int32)) dX9_sheet_61 (by decide) ?_
    refine fr_icmp_ge (pc := 63) 85 dX9_sheet_63 (by decide) (fun c1 => ?_) (fun c1 => ?_)
    · have hf := fd_t c1 hf
      refine fr_iload_n (pc := 85) dX9_sheet_85 2 rfl rfl ?_
      exact vm_iretW (x := a3) (pc := 86) dX9_sheet_86 rfl hf
    · have hf := fd_f c1 hf
      refine fr_aload_n (pc := 66) dX9_sheet_66 0 rfl rfl ?_
      refine fr_getR (pc := 67) dX9_sheet_67 fl_X9_77 (by decide) rfl rfl ?_
      refine fr_bipush (pc := 70) (v := (48 : Int32)) dX9_sheet_70 (by decide) ?_
      refine fr_iload_n (pc := 72) dX9_sheet_72 1 rfl rfl ?_
      refine fr_imul (pc := 73) dX9_sheet_73 ?_
      refine fr_iload (pc := 74) dX9_sheet_74 3 rfl ?_
      refine fr_iadd (pc := 76) dX9_sheet_76 ?_
      refine fr_iconst (pc := 77) (v := (0 : Int32)) dX9_sheet_77 (by decide) ?_
      obtain ⟨g2, hf⟩ := fd_g_e hf
      obtain ⟨h3, eh3, hf⟩ := fd_lt_e hf
      refine vm_iast (pc := 78) dX9_sheet_78 (by decide) (by decide) rfl g2 eh3 ?_
      refine fr_iinc (pc := 79) (v := (v4 + (1 : Int32))) (lv' := [(4, .int (v4 + (1 : Int32))), (0, .ref (g.2.2.2 + 73)), (1, .int a1), (3, .int a3)]) dX9_sheet_79 3 rfl rfl (by decide) rfl ?_
      refine fr_goto (pc := 82) 59 dX9_sheet_82 (by decide) ?_
      refine fr_loc (lv' := [(0, .ref (g.2.2.2 + 73)), (1, .int a1), (3, .int a3), (4, .int (v4 + (1 : Int32)))]) [1, 2, 3, 0] rfl ?_
      exact ih _ _ hf
def fX9_sheet (a1 : Int32) (a2 : Int32) (a3 : Int32) (h : fd_H) : Option (Int32 × fd_H) :=
(fX9_isSheet a1).bind fun r2 =>
if r2 = true then (
(fX9_in a2 (0 : Int32) (2 : Int32)).bind fun r5 =>
if r5 = true then (
if a3 ≤ (48 : Int32) then (
if 0 ≤ a3 then (
fd_g (fd_in a1 4) (
fd_lt (fd_ui h 93 a1.toNatClampNeg (fd_b true)) fun h10 =>
fd_g (fd_in a1 4) (
fd_lt (fd_ui h10 94 a1.toNatClampNeg a2) fun h12 =>
fd_g (fd_in a1 4) (
fd_lt (fd_ui h12 95 a1.toNatClampNeg a3) fun h14 =>
fX9_sheet_L59 a1 a2 a3 fd_fu (0 : Int32) h14))))
else (
(fX9_meets (5 : Int32) h).bind fun q16 =>
some (q16.1, q16.2)))
else (
some ((-2 : Int32), h)))
else (
some ((-2 : Int32), h)))
else (
some ((-2 : Int32), h))
set_option maxRecDepth 100000 in
set_option maxHeartbeats 4000000 in
theorem sX9_sheet {g : fd_G} {hm : fd_H} {a1 : Int32} {a2 : Int32} {a3 : Int32} {r : Int32 × fd_H} {h : fd_H} (hf : fX9_sheet a1 a2 a3 h = some r) : fd_S g mX9_sheet 2 [.ref (g.2.2.2 + 73), .int a1, .int a2, .int a3] fd_X0 (fd_mx hm h) (some (.int r.1)) fd_X0 (fd_mx hm r.2) 0 0 := by
  refine fd_S.of (by decide +kernel) (Nat.le_of_ble_eq_true rfl) ?_
  unfold fX9_sheet at hf
  refine fr_loc (lv' := [(0, .ref (g.2.2.2 + 73)), (1, .int a1), (2, .int a2), (3, .int a3)]) [0, 1, 2, 3] rfl ?_
  refine fr_iload_n (pc := 0) dX9_sheet_0 1 rfl rfl ?_
  obtain ⟨r2, hc1, hf⟩ := fd_bi hf
  refine fr_callSz (pc := 1) (av := [.int a1]) dX9_sheet_1 yy_X9_isSheet kw_265 rfl rfl (Nat.le_of_ble_eq_true rfl) ⟨Nat.le_of_ble_eq_true rfl, Nat.le_of_ble_eq_true rfl, Nat.zero_le _, Nat.zero_le _⟩ (sX9_isSheet hc1) ?_
  refine fr_bz (pc := 4) 22 dX9_sheet_4 (by decide) (fun c3 => ?_) (fun c3 => ?_)
  · have hf := fd_f c3 hf
    refine fr_bipush (pc := 22) (v := (-2 : Int32)) dX9_sheet_22 (by decide) ?_
    exact vm_iretW (x := (-2 : Int32)) (pc := 24) dX9_sheet_24 rfl hf
  · have hf := fd_t c3 hf
    refine fr_iload_n (pc := 7) dX9_sheet_7 2 rfl rfl ?_
    refine fr_iconst (pc := 8) (v := (0 : Int32)) dX9_sheet_8 (by decide) ?_
    refine fr_iconst (pc := 9) (v := (2 : Int32)) dX9_sheet_9 (by decide) ?_
    obtain ⟨r5, hc4, hf⟩ := fd_bi hf
    refine fr_callSz (pc := 10) (av := [.int a2, .int (0 : Int32), .int (2 : Int32)]) dX9_sheet_10 yy_X9_in kw_148 rfl rfl (Nat.le_of_ble_eq_true rfl) ⟨Nat.le_of_ble_eq_true rfl, Nat.le_of_ble_eq_true rfl, Nat.zero_le _, Nat.zero_le _⟩ (sX9_in hc4) ?_
    refine fr_bz (pc := 13) 22 dX9_sheet_13 (by decide) (fun c6 => ?_) (fun c6 => ?_)
    · have hf := fd_f c6 hf
      refine fr_bipush (pc := 22) (v := (-2 : Int32)) dX9_sheet_22 (by decide) ?_
      exact vm_iretW (x := (-2 : Int32)) (pc := 24) dX9_sheet_24 rfl hf
    · have hf := fd_t c6 hf
      refine fr_iload_n (pc := 16) dX9_sheet_16 3 rfl rfl ?_
      refine fr_bipush (pc := 17) (v := (48 : Int32)) dX9_sheet_17 (by decide) ?_
      refine fr_icmp_le (pc := 19) 25 dX9_sheet_19 (by decide) (fun c7 => ?_) (fun c7 => ?_)
      · have hf := fd_t c7 hf
        refine fr_iload_n (pc := 25) dX9_sheet_25 3 rfl rfl ?_
        refine fr_if_ge (pc := 26) 35 dX9_sheet_26 (by decide) (fun c8 => ?_) (fun c8 => ?_)
        · have hf := fd_t c8 hf
          refine fr_aload_n (pc := 35) dX9_sheet_35 0 rfl rfl ?_
          refine fr_getR (pc := 36) dX9_sheet_36 fl_X9_68 (by decide) rfl rfl ?_
          refine fr_iload_n (pc := 39) dX9_sheet_39 1 rfl rfl ?_
          refine fr_iconst (pc := 40) (v := (1 : Int32)) dX9_sheet_40 (by decide) ?_
          obtain ⟨g9, hf⟩ := fd_g_e hf
          obtain ⟨h10, eh10, hf⟩ := fd_lt_e hf
          refine vm_zast (x := true) (pc := 41) dX9_sheet_41 (by decide) (by decide) rfl g9 eh10 ?_
          refine fr_aload_n (pc := 42) dX9_sheet_42 0 rfl rfl ?_
          refine fr_getR (pc := 43) dX9_sheet_43 fl_X9_71 (by decide) rfl rfl ?_
          refine fr_iload_n (pc := 46) dX9_sheet_46 1 rfl rfl ?_
          refine fr_iload_n (pc := 47) dX9_sheet_47 2 rfl rfl ?_
          obtain ⟨g11, hf⟩ := fd_g_e hf
          obtain ⟨h12, eh12, hf⟩ := fd_lt_e hf
          refine vm_iast (pc := 48) dX9_sheet_48 (by decide) (by decide) rfl g11 eh12 ?_
          refine fr_aload_n (pc := 49) dX9_sheet_49 0 rfl rfl ?_
          refine fr_getR (pc := 50) dX9_sheet_50 fl_X9_74 (by decide) rfl rfl ?_
          refine fr_iload_n (pc := 53) dX9_sheet_53 1 rfl rfl ?_
          refine fr_iload_n (pc := 54) dX9_sheet_54 3 rfl rfl ?_
          obtain ⟨g13, hf⟩ := fd_g_e hf
          obtain ⟨h14, eh14, hf⟩ := fd_lt_e hf
          refine vm_iast (pc := 55) dX9_sheet_55 (by decide) (by decide) rfl g13 eh14 ?_
          refine fr_iconst (pc := 56) (v := (0 : Int32)) dX9_sheet_56 (by decide) ?_
          refine fr_istore (pc := 57) (lv' := [(4, .int (0 : Int32)), (0, .ref (g.2.2.2 + 73)), (1, .int a1), (2, .int a2), (3, .int a3)]) dX9_sheet_57 (by decide) rfl ?_
          refine fr_loc (lv' := [(0, .ref (g.2.2.2 + 73)), (1, .int a1), (3, .int a3), (4, .int (0 : Int32))]) [1, 2, 4, 0] rfl ?_
          exact sX9_sheet_L59 _  _ _ hf
        · have hf := fd_f c8 hf
          refine fr_aload_n (pc := 29) dX9_sheet_29 0 rfl rfl ?_
          refine fr_iconst (pc := 30) (v := (5 : Int32)) dX9_sheet_30 (by decide) ?_
          obtain ⟨q16, hc15, hf⟩ := fd_bi hf
          refine fr_callVi (pc := 31) (av := [.int (5 : Int32)]) dX9_sheet_31 yy_X9_meets kw_269 (by decide) rfl rfl rfl rfl (Nat.le_of_ble_eq_true rfl) ⟨Nat.le_of_ble_eq_true rfl, Nat.le_of_ble_eq_true rfl, Nat.zero_le _, Nat.zero_le _⟩ (sX9_meets hc15) ?_
          exact vm_iretW (x := q16.1) (pc := 34) dX9_sheet_34 rfl hf
      · have hf := fd_f c7 hf
        refine fr_bipush (pc := 22) (v := (-2 : Int32)) dX9_sheet_22 (by decide) ?_
        exact vm_iretW (x := (-2 : Int32)) (pc := 24) dX9_sheet_24 rfl hf
theorem dX9_lose_0 : decode cX9_lose 0 = .ok (.iload_n 1, 1) := by decide +kernel
theorem dX9_lose_1 : decode cX9_lose 1 = .ok (.invokestatic 238, 3) := by decide +kernel
theorem dX9_lose_4 : decode cX9_lose 4 = .ok (.ifCond .ne 6, 3) := by decide +kernel
theorem dX9_lose_7 : decode cX9_lose 7 = .ok (.bipush (-2), 2) := by decide +kernel
theorem dX9_lose_9 : decode cX9_lose 9 = .ok (.ireturn, 1) := by decide +kernel
theorem dX9_lose_10 : decode cX9_lose 10 = .ok (.aload_n 0, 1) := by decide +kernel
theorem dX9_lose_11 : decode cX9_lose 11 = .ok (.getfield 68, 3) := by decide +kernel
theorem dX9_lose_14 : decode cX9_lose 14 = .ok (.iload_n 1, 1) := by decide +kernel
theorem dX9_lose_15 : decode cX9_lose 15 = .ok (.baload, 1) := by decide +kernel
theorem dX9_lose_16 : decode cX9_lose 16 = .ok (.ifCond .ne 9, 3) := by decide +kernel
theorem dX9_lose_19 : decode cX9_lose 19 = .ok (.aload_n 0, 1) := by decide +kernel
theorem dX9_lose_20 : decode cX9_lose 20 = .ok (.iconst 1, 1) := by decide +kernel
theorem dX9_lose_21 : decode cX9_lose 21 = .ok (.invokevirtual 241, 3) := by decide +kernel
theorem dX9_lose_24 : decode cX9_lose 24 = .ok (.ireturn, 1) := by decide +kernel
theorem dX9_lose_25 : decode cX9_lose 25 = .ok (.aload_n 0, 1) := by decide +kernel
theorem dX9_lose_26 : decode cX9_lose 26 = .ok (.getfield 68, 3) := by decide +kernel
theorem dX9_lose_29 : decode cX9_lose 29 = .ok (.iload_n 1, 1) := by decide +kernel
theorem dX9_lose_30 : decode cX9_lose 30 = .ok (.iconst 0, 1) := by decide +kernel
theorem dX9_lose_31 : decode cX9_lose 31 = .ok (.bastore, 1) := by decide +kernel
theorem dX9_lose_32 : decode cX9_lose 32 = .ok (.aload_n 0, 1) := by decide +kernel
theorem dX9_lose_33 : decode cX9_lose 33 = .ok (.getfield 74, 3) := by decide +kernel
theorem dX9_lose_36 : decode cX9_lose 36 = .ok (.iload_n 1, 1) := by decide +kernel
theorem dX9_lose_37 : decode cX9_lose 37 = .ok (.iaload, 1) := by decide +kernel
theorem dX9_lose_38 : decode cX9_lose 38 = .ok (.ireturn, 1) := by decide +kernel
def fX9_lose (a1 : Int32) (h : fd_H) : Option (Int32 × fd_H) :=
(fX9_isSheet a1).bind fun r2 =>
if r2 = true then (
fd_g (fd_in a1 4) (
if (h.1 93 a1.toNatClampNeg) = 0 then (
(fX9_meets (1 : Int32) h).bind fun q10 =>
some (q10.1, q10.2))
else (
fd_g (fd_in a1 4) (
fd_lt (fd_ui h 93 a1.toNatClampNeg (fd_b false)) fun h7 =>
fd_g (fd_in a1 4) (
some ((h7.1 95 a1.toNatClampNeg), h7))))))
else (
some ((-2 : Int32), h))
set_option maxRecDepth 100000 in
set_option maxHeartbeats 4000000 in
theorem sX9_lose {g : fd_G} {hm : fd_H} {a1 : Int32} {r : Int32 × fd_H} {h : fd_H} (hf : fX9_lose a1 h = some r) : fd_S g mX9_lose 2 [.ref (g.2.2.2 + 73), .int a1] fd_X0 (fd_mx hm h) (some (.int r.1)) fd_X0 (fd_mx hm r.2) 0 0 := by
  refine fd_S.of (by decide +kernel) (Nat.le_of_ble_eq_true rfl) ?_
  unfold fX9_lose at hf
  refine fr_loc (lv' := [(0, .ref (g.2.2.2 + 73)), (1, .int a1)]) [0, 1] rfl ?_
  refine fr_iload_n (pc := 0) dX9_lose_0 1 rfl rfl ?_
  obtain ⟨r2, hc1, hf⟩ := fd_bi hf
  refine fr_callSz (pc := 1) (av := [.int a1]) dX9_lose_1 yy_X9_isSheet kw_265 rfl rfl (Nat.le_of_ble_eq_true rfl) ⟨Nat.le_of_ble_eq_true rfl, Nat.le_of_ble_eq_true rfl, Nat.zero_le _, Nat.zero_le _⟩ (sX9_isSheet hc1) ?_
  refine fr_bn (pc := 4) 10 dX9_lose_4 (by decide) (fun c3 => ?_) (fun c3 => ?_)
  · have hf := fd_t c3 hf
    refine fr_aload_n (pc := 10) dX9_lose_10 0 rfl rfl ?_
    refine fr_getR (pc := 11) dX9_lose_11 fl_X9_68 (by decide) rfl rfl ?_
    refine fr_iload_n (pc := 14) dX9_lose_14 1 rfl rfl ?_
    obtain ⟨g4, hf⟩ := fd_g_e hf
    refine vm_zald (pc := 15) dX9_lose_15 (by decide) (by decide) rfl g4 ?_
    refine fr_if_ne (pc := 16) 25 dX9_lose_16 (by decide) (fun c5 => ?_) (fun c5 => ?_)
    · have hf := fd_f c5 hf
      refine fr_aload_n (pc := 25) dX9_lose_25 0 rfl rfl ?_
      refine fr_getR (pc := 26) dX9_lose_26 fl_X9_68 (by decide) rfl rfl ?_
      refine fr_iload_n (pc := 29) dX9_lose_29 1 rfl rfl ?_
      refine fr_iconst (pc := 30) (v := (0 : Int32)) dX9_lose_30 (by decide) ?_
      obtain ⟨g6, hf⟩ := fd_g_e hf
      obtain ⟨h7, eh7, hf⟩ := fd_lt_e hf
      refine vm_zast (x := false) (pc := 31) dX9_lose_31 (by decide) (by decide) rfl g6 eh7 ?_
      refine fr_aload_n (pc := 32) dX9_lose_32 0 rfl rfl ?_
      refine fr_getR (pc := 33) dX9_lose_33 fl_X9_74 (by decide) rfl rfl ?_
      refine fr_iload_n (pc := 36) dX9_lose_36 1 rfl rfl ?_
      obtain ⟨g8, hf⟩ := fd_g_e hf
      refine vm_iald (pc := 37) dX9_lose_37 (by decide) (by decide) rfl g8 ?_
      exact vm_iretW (x := (h7.1 95 a1.toNatClampNeg)) (pc := 38) dX9_lose_38 rfl hf
    · have hf := fd_t c5 hf
      refine fr_aload_n (pc := 19) dX9_lose_19 0 rfl rfl ?_
      refine fr_iconst (pc := 20) (v := (1 : Int32)) dX9_lose_20 (by decide) ?_
      obtain ⟨q10, hc9, hf⟩ := fd_bi hf
      refine fr_callVi (pc := 21) (av := [.int (1 : Int32)]) dX9_lose_21 yy_X9_meets kw_269 (by decide) rfl rfl rfl rfl (Nat.le_of_ble_eq_true rfl) ⟨Nat.le_of_ble_eq_true rfl, Nat.le_of_ble_eq_true rfl, Nat.zero_le _, Nat.zero_le _⟩ (sX9_meets hc9) ?_
      exact vm_iretW (x := q10.1) (pc := 24) dX9_lose_24 rfl hf
  · have hf := fd_f c3 hf
    refine fr_bipush (pc := 7) (v := (-2 : Int32)) dX9_lose_7 (by decide) ?_
    exact vm_iretW (x := (-2 : Int32)) (pc := 9) dX9_lose_9 rfl hf
theorem dX9_put_0 : decode cX9_put 0 = .ok (.iload_n 1, 1) := by decide +kernel
theorem dX9_put_1 : decode cX9_put 1 = .ok (.invokestatic 238, 3) := by decide +kernel
theorem dX9_put_4 : decode cX9_put 4 = .ok (.ifCond .eq 12, 3) := by decide +kernel
theorem dX9_put_7 : decode cX9_put 7 = .ok (.iload_n 2, 1) := by decide +kernel
theorem dX9_put_8 : decode cX9_put 8 = .ok (.iconst 0, 1) := by decide +kernel
theorem dX9_put_9 : decode cX9_put 9 = .ok (.iconst 2, 1) := by decide +kernel
theorem dX9_put_10 : decode cX9_put 10 = .ok (.invokestatic 89, 3) := by decide +kernel
theorem dX9_put_13 : decode cX9_put 13 = .ok (.ifCond .ne 6, 3) := by decide +kernel
theorem dX9_put_16 : decode cX9_put 16 = .ok (.bipush (-2), 2) := by decide +kernel
theorem dX9_put_18 : decode cX9_put 18 = .ok (.ireturn, 1) := by decide +kernel
theorem dX9_put_19 : decode cX9_put 19 = .ok (.aload_n 0, 1) := by decide +kernel
theorem dX9_put_20 : decode cX9_put 20 = .ok (.iload_n 1, 1) := by decide +kernel
theorem dX9_put_21 : decode cX9_put 21 = .ok (.iload_n 2, 1) := by decide +kernel
theorem dX9_put_22 : decode cX9_put 22 = .ok (.iload_n 3, 1) := by decide +kernel
theorem dX9_put_23 : decode cX9_put 23 = .ok (.invokevirtual 284, 3) := by decide +kernel
theorem dX9_put_26 : decode cX9_put 26 = .ok (.istore 5, 2) := by decide +kernel
theorem dX9_put_28 : decode cX9_put 28 = .ok (.iload 5, 2) := by decide +kernel
theorem dX9_put_30 : decode cX9_put 30 = .ok (.ifCond .le 10, 3) := by decide +kernel
theorem dX9_put_33 : decode cX9_put 33 = .ok (.aload_n 0, 1) := by decide +kernel
theorem dX9_put_34 : decode cX9_put 34 = .ok (.iload 5, 2) := by decide +kernel
theorem dX9_put_36 : decode cX9_put 36 = .ok (.invokevirtual 241, 3) := by decide +kernel
theorem dX9_put_39 : decode cX9_put 39 = .ok (.ireturn, 1) := by decide +kernel
theorem dX9_put_40 : decode cX9_put 40 = .ok (.aload_n 0, 1) := by decide +kernel
theorem dX9_put_41 : decode cX9_put 41 = .ok (.iload_n 1, 1) := by decide +kernel
theorem dX9_put_42 : decode cX9_put 42 = .ok (.iload_n 3, 1) := by decide +kernel
theorem dX9_put_43 : decode cX9_put 43 = .ok (.iload 4, 2) := by decide +kernel
theorem dX9_put_45 : decode cX9_put 45 = .ok (.invokevirtual 287, 3) := by decide +kernel
theorem dX9_put_48 : decode cX9_put 48 = .ok (.iconst 1, 1) := by decide +kernel
theorem dX9_put_49 : decode cX9_put 49 = .ok (.ireturn, 1) := by decide +kernel
def fX9_put (a1 : Int32) (a2 : Int32) (a3 : Int32) (a4 : Int32) (h : fd_H) : Option (Int32 × fd_H) :=
(fX9_isSheet a1).bind fun r2 =>
if r2 = true then (
(fX9_in a2 (0 : Int32) (2 : Int32)).bind fun r5 =>
if r5 = true then (
(fX9_lacks a1 a2 a3 h).bind fun r8 =>
if r8 ≤ 0 then (
(fX9_keepsItem a1 a3 a4 h).bind fun h11 =>
some ((1 : Int32), h11))
else (
(fX9_meets r8 h).bind fun q13 =>
some (q13.1, q13.2)))
else (
some ((-2 : Int32), h)))
else (
some ((-2 : Int32), h))
set_option maxRecDepth 100000 in
set_option maxHeartbeats 4000000 in
theorem sX9_put {g : fd_G} {hm : fd_H} {a1 : Int32} {a2 : Int32} {a3 : Int32} {a4 : Int32} {r : Int32 × fd_H} {h : fd_H} (hf : fX9_put a1 a2 a3 a4 h = some r) : fd_S g mX9_put 2 [.ref (g.2.2.2 + 73), .int a1, .int a2, .int a3, .int a4] fd_X0 (fd_mx hm h) (some (.int r.1)) fd_X0 (fd_mx hm r.2) 0 0 := by
  refine fd_S.of (by decide +kernel) (Nat.le_of_ble_eq_true rfl) ?_
  unfold fX9_put at hf
  refine fr_loc (lv' := [(0, .ref (g.2.2.2 + 73)), (1, .int a1), (2, .int a2), (3, .int a3), (4, .int a4)]) [0, 1, 2, 3, 4] rfl ?_
  refine fr_iload_n (pc := 0) dX9_put_0 1 rfl rfl ?_
  obtain ⟨r2, hc1, hf⟩ := fd_bi hf
  refine fr_callSz (pc := 1) (av := [.int a1]) dX9_put_1 yy_X9_isSheet kw_265 rfl rfl (Nat.le_of_ble_eq_true rfl) ⟨Nat.le_of_ble_eq_true rfl, Nat.le_of_ble_eq_true rfl, Nat.zero_le _, Nat.zero_le _⟩ (sX9_isSheet hc1) ?_
  refine fr_bz (pc := 4) 16 dX9_put_4 (by decide) (fun c3 => ?_) (fun c3 => ?_)
  · have hf := fd_f c3 hf
    refine fr_bipush (pc := 16) (v := (-2 : Int32)) dX9_put_16 (by decide) ?_
    exact vm_iretW (x := (-2 : Int32)) (pc := 18) dX9_put_18 rfl hf
  · have hf := fd_t c3 hf
    refine fr_iload_n (pc := 7) dX9_put_7 2 rfl rfl ?_
    refine fr_iconst (pc := 8) (v := (0 : Int32)) dX9_put_8 (by decide) ?_
    refine fr_iconst (pc := 9) (v := (2 : Int32)) dX9_put_9 (by decide) ?_
    obtain ⟨r5, hc4, hf⟩ := fd_bi hf
    refine fr_callSz (pc := 10) (av := [.int a2, .int (0 : Int32), .int (2 : Int32)]) dX9_put_10 yy_X9_in kw_148 rfl rfl (Nat.le_of_ble_eq_true rfl) ⟨Nat.le_of_ble_eq_true rfl, Nat.le_of_ble_eq_true rfl, Nat.zero_le _, Nat.zero_le _⟩ (sX9_in hc4) ?_
    refine fr_bn (pc := 13) 19 dX9_put_13 (by decide) (fun c6 => ?_) (fun c6 => ?_)
    · have hf := fd_t c6 hf
      refine fr_aload_n (pc := 19) dX9_put_19 0 rfl rfl ?_
      refine fr_iload_n (pc := 20) dX9_put_20 1 rfl rfl ?_
      refine fr_iload_n (pc := 21) dX9_put_21 2 rfl rfl ?_
      refine fr_iload_n (pc := 22) dX9_put_22 3 rfl rfl ?_
      obtain ⟨r8, hc7, hf⟩ := fd_bi hf
      refine fr_callVi (pc := 23) (av := [.int a1, .int a2, .int a3]) dX9_put_23 yy_X9_lacks kw_273 (by decide) rfl rfl rfl rfl (Nat.le_of_ble_eq_true rfl) ⟨Nat.le_of_ble_eq_true rfl, Nat.le_of_ble_eq_true rfl, Nat.zero_le _, Nat.zero_le _⟩ (sX9_lacks hc7) ?_
      refine fr_istore (pc := 26) (lv' := [(5, .int r8), (0, .ref (g.2.2.2 + 73)), (1, .int a1), (2, .int a2), (3, .int a3), (4, .int a4)]) dX9_put_26 (by decide) rfl ?_
      refine fr_iload (pc := 28) dX9_put_28 0 rfl ?_
      refine fr_if_le (pc := 30) 40 dX9_put_30 (by decide) (fun c9 => ?_) (fun c9 => ?_)
      · have hf := fd_t c9 hf
        refine fr_aload_n (pc := 40) dX9_put_40 1 rfl rfl ?_
        refine fr_iload_n (pc := 41) dX9_put_41 2 rfl rfl ?_
        refine fr_iload_n (pc := 42) dX9_put_42 4 rfl rfl ?_
        refine fr_iload (pc := 43) dX9_put_43 5 rfl ?_
        obtain ⟨h11, hc10, hf⟩ := fd_bi hf
        refine fr_callVv (pc := 45) (av := [.int a1, .int a3, .int a4]) dX9_put_45 yy_X9_keepsItem kw_277 (by decide) rfl rfl rfl rfl (Nat.le_of_ble_eq_true rfl) ⟨Nat.le_of_ble_eq_true rfl, Nat.le_of_ble_eq_true rfl, Nat.zero_le _, Nat.zero_le _⟩ (sX9_keepsItem hc10) ?_
        refine fr_iconst (pc := 48) (v := (1 : Int32)) dX9_put_48 (by decide) ?_
        exact vm_iretW (x := (1 : Int32)) (pc := 49) dX9_put_49 rfl hf
      · have hf := fd_f c9 hf
        refine fr_aload_n (pc := 33) dX9_put_33 1 rfl rfl ?_
        refine fr_iload (pc := 34) dX9_put_34 0 rfl ?_
        obtain ⟨q13, hc12, hf⟩ := fd_bi hf
        refine fr_callVi (pc := 36) (av := [.int r8]) dX9_put_36 yy_X9_meets kw_269 (by decide) rfl rfl rfl rfl (Nat.le_of_ble_eq_true rfl) ⟨Nat.le_of_ble_eq_true rfl, Nat.le_of_ble_eq_true rfl, Nat.zero_le _, Nat.zero_le _⟩ (sX9_meets hc12) ?_
        exact vm_iretW (x := q13.1) (pc := 39) dX9_put_39 rfl hf
    · have hf := fd_f c6 hf
      refine fr_bipush (pc := 16) (v := (-2 : Int32)) dX9_put_16 (by decide) ?_
      exact vm_iretW (x := (-2 : Int32)) (pc := 18) dX9_put_18 rfl hf
