theorem dX2_liftOf_0 : decode cX2_liftOf 0 = .ok (.iload_n 0, 1) := by decide +kernel
theorem dX2_liftOf_1 : decode cX2_liftOf 1 = .ok (.tableswitch 34 1 3 #[27, 30, 32], 27) := by decide +kernel
theorem dX2_liftOf_28 : decode cX2_liftOf 28 = .ok (.bipush (-3), 2) := by decide +kernel
theorem dX2_liftOf_30 : decode cX2_liftOf 30 = .ok (.ireturn, 1) := by decide +kernel
theorem dX2_liftOf_31 : decode cX2_liftOf 31 = .ok (.iconst 2, 1) := by decide +kernel
theorem dX2_liftOf_32 : decode cX2_liftOf 32 = .ok (.ireturn, 1) := by decide +kernel
theorem dX2_liftOf_33 : decode cX2_liftOf 33 = .ok (.iconst 4, 1) := by decide +kernel
theorem dX2_liftOf_34 : decode cX2_liftOf 34 = .ok (.ireturn, 1) := by decide +kernel
theorem dX2_liftOf_35 : decode cX2_liftOf 35 = .ok (.iconst 0, 1) := by decide +kernel
theorem dX2_liftOf_36 : decode cX2_liftOf 36 = .ok (.ireturn, 1) := by decide +kernel
def fX2_liftOf (a0 : Int32) : Option (Int32) :=
if a0 = (1 : Int32) then (
some ((-3 : Int32)))
else (if a0 = (2 : Int32) then (
some ((2 : Int32)))
else (if a0 = (3 : Int32) then (
some ((4 : Int32)))
else (some ((0 : Int32)))))
set_option maxRecDepth 100000 in
set_option maxHeartbeats 4000000 in
theorem sX2_liftOf {g : fd_G} {a0 : Int32} {h : fd_H} {r : Int32} (hf : fX2_liftOf a0 = some r) : fd_S g mX2_liftOf 0 [.int a0] fd_X0 h (some (.int r)) fd_X0 h 0 0 := by
  refine fd_S.of (by decide +kernel) (Nat.le_of_ble_eq_true rfl) ?_
  unfold fX2_liftOf at hf
  refine fr_loc (lv' := [(0, .int a0)]) [0] rfl ?_
  refine fr_iload_n (pc := 0) dX2_liftOf_0 0 rfl rfl ?_
  rcases Decidable.em (a0 = (1 : Int32)) with c1 | c1
  · have hf := fd_t c1 hf
    refine fr_tabIn (pc := 1) 28 dX2_liftOf_1 (by rw [c1]; decide) (by rw [c1]; decide) (by rw [c1]; rfl) (by decide) ?_
    refine fr_bipush (pc := 28) (v := (-3 : Int32)) dX2_liftOf_28 (by decide) ?_
    exact fr_iretP (x := (-3 : Int32)) (pc := 30) dX2_liftOf_30 rfl hf
  · have hf := fd_f c1 hf
    rcases Decidable.em (a0 = (2 : Int32)) with c2 | c2
    · have hf := fd_t c2 hf
      refine fr_tabIn (pc := 1) 31 dX2_liftOf_1 (by rw [c2]; decide) (by rw [c2]; decide) (by rw [c2]; rfl) (by decide) ?_
      refine fr_iconst (pc := 31) (v := (2 : Int32)) dX2_liftOf_31 (by decide) ?_
      exact fr_iretP (x := (2 : Int32)) (pc := 32) dX2_liftOf_32 rfl hf
    · have hf := fd_f c2 hf
      rcases Decidable.em (a0 = (3 : Int32)) with c3 | c3
      · have hf := fd_t c3 hf
        refine fr_tabIn (pc := 1) 33 dX2_liftOf_1 (by rw [c3]; decide) (by rw [c3]; decide) (by rw [c3]; rfl) (by decide) ?_
        refine fr_iconst (pc := 33) (v := (4 : Int32)) dX2_liftOf_33 (by decide) ?_
        exact fr_iretP (x := (4 : Int32)) (pc := 34) dX2_liftOf_34 rfl hf
      · have hf := fd_f c3 hf
        have tc1 : ¬ (a0).toInt = 1 := lv_neT c1 rfl
        have tc2 : ¬ (a0).toInt = 2 := lv_neT c2 rfl
        have tc3 : ¬ (a0).toInt = 3 := lv_neT c3 rfl
        refine fr_tabOut (pc := 1) 35 dX2_liftOf_1 (by omega) (by decide) ?_
        refine fr_iconst (pc := 35) (v := (0 : Int32)) dX2_liftOf_35 (by decide) ?_
        exact fr_iretP (x := (0 : Int32)) (pc := 36) dX2_liftOf_36 rfl hf
theorem dX2_has_0 : decode cX2_has 0 = .ok (.iload_n 1, 1) := by decide +kernel
theorem dX2_has_1 : decode cX2_has 1 = .ok (.ifCond .lt 15, 3) := by decide +kernel
theorem dX2_has_4 : decode cX2_has 4 = .ok (.iload_n 1, 1) := by decide +kernel
theorem dX2_has_5 : decode cX2_has 5 = .ok (.aload_n 0, 1) := by decide +kernel
theorem dX2_has_6 : decode cX2_has 6 = .ok (.getfield 26, 3) := by decide +kernel
theorem dX2_has_9 : decode cX2_has 9 = .ok (.if_icmp .ge 7, 3) := by decide +kernel
theorem dX2_has_12 : decode cX2_has 12 = .ok (.iconst 1, 1) := by decide +kernel
theorem dX2_has_13 : decode cX2_has 13 = .ok (.goto 4, 3) := by decide +kernel
theorem dX2_has_16 : decode cX2_has 16 = .ok (.iconst 0, 1) := by decide +kernel
theorem dX2_has_17 : decode cX2_has 17 = .ok (.ireturn, 1) := by decide +kernel
def fX2_has (a1 : Int32) (h : fd_H) : Option (Bool) :=
if a1 < 0 then (
some (false))
else (
if (h.1 12 3) ≤ a1 then (
some (false))
else (
some (true)))
set_option maxRecDepth 100000 in
set_option maxHeartbeats 4000000 in
theorem sX2_has {g : fd_G} {hm : fd_H} {a1 : Int32} {h : fd_H} {r : Bool} (hf : fX2_has a1 h = some r) : fd_S g mX2_has 0 [.ref (g.2.2.2 + 12), .int a1] fd_X0 (fd_mx h hm) (some (.int (fd_b r))) fd_X0 (fd_mx h hm) 0 0 := by
  refine fd_S.of (by decide +kernel) (Nat.le_of_ble_eq_true rfl) ?_
  unfold fX2_has at hf
  refine fr_loc (lv' := [(0, .ref (g.2.2.2 + 12)), (1, .int a1)]) [0, 1] rfl ?_
  refine fr_iload_n (pc := 0) dX2_has_0 1 rfl rfl ?_
  refine fr_if_lt (pc := 1) 16 dX2_has_1 (by decide) (fun c1 => ?_) (fun c1 => ?_)
  · have hf := fd_t c1 hf
    refine fr_iconst (pc := 16) (v := (0 : Int32)) dX2_has_16 (by decide) ?_
    exact fr_zretP (x := false) (pc := 17) dX2_has_17 rfl hf
  · have hf := fd_f c1 hf
    refine fr_iload_n (pc := 4) dX2_has_4 1 rfl rfl ?_
    refine fr_aload_n (pc := 5) dX2_has_5 0 rfl rfl ?_
    refine vx_getI (pc := 6) dX2_has_6 fl_X2_26 (by decide) (by decide) rfl rfl ?_
    refine fr_icmp_ge (pc := 9) 16 dX2_has_9 (by decide) (fun c2 => ?_) (fun c2 => ?_)
    · have hf := fd_t c2 hf
      refine fr_iconst (pc := 16) (v := (0 : Int32)) dX2_has_16 (by decide) ?_
      exact fr_zretP (x := false) (pc := 17) dX2_has_17 rfl hf
    · have hf := fd_f c2 hf
      refine fr_iconst (pc := 12) (v := (1 : Int32)) dX2_has_12 (by decide) ?_
      refine fr_goto (pc := 13) 17 dX2_has_13 (by decide) ?_
      exact fr_zretP (x := true) (pc := 17) dX2_has_17 rfl hf
theorem dX3_at_0 : decode cX3_at 0 = .ok (.iload_n 1, 1) := by decide +kernel
theorem dX3_at_1 : decode cX3_at 1 = .ok (.ifCond .lt 21, 3) := by decide +kernel
theorem dX3_at_4 : decode cX3_at 4 = .ok (.iload_n 1, 1) := by decide +kernel
theorem dX3_at_5 : decode cX3_at 5 = .ok (.aload_n 0, 1) := by decide +kernel
theorem dX3_at_6 : decode cX3_at 6 = .ok (.getfield 13, 3) := by decide +kernel
theorem dX3_at_9 : decode cX3_at 9 = .ok (.arraylength, 1) := by decide +kernel
theorem dX3_at_10 : decode cX3_at 10 = .ok (.if_icmp .ge 12, 3) := by decide +kernel
theorem dX3_at_13 : decode cX3_at 13 = .ok (.aload_n 0, 1) := by decide +kernel
theorem dX3_at_14 : decode cX3_at 14 = .ok (.getfield 13, 3) := by decide +kernel
theorem dX3_at_17 : decode cX3_at 17 = .ok (.iload_n 1, 1) := by decide +kernel
theorem dX3_at_18 : decode cX3_at 18 = .ok (.iaload, 1) := by decide +kernel
theorem dX3_at_19 : decode cX3_at 19 = .ok (.goto 4, 3) := by decide +kernel
theorem dX3_at_22 : decode cX3_at 22 = .ok (.iconst 0, 1) := by decide +kernel
theorem dX3_at_23 : decode cX3_at 23 = .ok (.ireturn, 1) := by decide +kernel
def fX3_at (k : Nat) (n : Nat) (a1 : Int32) (h : fd_H) : Option (Int32) :=
if a1 < 0 then (
some ((0 : Int32)))
else (
if (Int32.ofNat n) ≤ a1 then (
some ((0 : Int32)))
else (
fd_g (fd_in a1 n) (
some ((h.1 (k + 1) a1.toNatClampNeg)))))
set_option maxRecDepth 100000 in
set_option maxHeartbeats 4000000 in
theorem sX3_at {g : fd_G} {hm : fd_H} {k : Nat} {n : Nat} {a1 : Int32} {h : fd_H} {r : Int32} (p0 : fd_isRow k n) (hf : fX3_at k n a1 h = some r) : fd_S g mX3_at 0 [.ref (g.2.2.2 + k), .int a1] fd_X0 (fd_mx h hm) (some (.int r)) fd_X0 (fd_mx h hm) 0 0 := by
  refine fd_S.of (by decide +kernel) (Nat.le_of_ble_eq_true rfl) ?_
  unfold fX3_at at hf
  refine fr_loc (lv' := [(0, .ref (g.2.2.2 + k)), (1, .int a1)]) [0, 1] rfl ?_
  refine fr_iload_n (pc := 0) dX3_at_0 1 rfl rfl ?_
  refine fr_if_lt (pc := 1) 22 dX3_at_1 (by decide) (fun c1 => ?_) (fun c1 => ?_)
  · have hf := fd_t c1 hf
    refine fr_iconst (pc := 22) (v := (0 : Int32)) dX3_at_22 (by decide) ?_
    exact fr_iretP (x := (0 : Int32)) (pc := 23) dX3_at_23 rfl hf
  · have hf := fd_f c1 hf
    refine fr_iload_n (pc := 4) dX3_at_4 1 rfl rfl ?_
    refine fr_aload_n (pc := 5) dX3_at_5 0 rfl rfl ?_
    refine fr_getR (pc := 6) dX3_at_6 fl_X3_13 p0.b p0.s rfl ?_
    refine fr_alen (pc := 9) dX3_at_9 p0.ab p0.as (by decide) rfl ?_
    refine fr_icmp_ge (pc := 10) 22 dX3_at_10 (by decide) (fun c2 => ?_) (fun c2 => ?_)
    · have hf := fd_t c2 hf
      refine fr_iconst (pc := 22) (v := (0 : Int32)) dX3_at_22 (by decide) ?_
      exact fr_iretP (x := (0 : Int32)) (pc := 23) dX3_at_23 rfl hf
    · have hf := fd_f c2 hf
      refine fr_aload_n (pc := 13) dX3_at_13 0 rfl rfl ?_
      refine fr_getR (pc := 14) dX3_at_14 fl_X3_13 p0.b p0.s rfl ?_
      refine fr_iload_n (pc := 17) dX3_at_17 1 rfl rfl ?_
      obtain ⟨g3, hf⟩ := fd_g_e hf
      refine vx_iald (pc := 18) dX3_at_18 p0.ab p0.ax p0.as g3 ?_
      refine fr_goto (pc := 19) 23 dX3_at_19 (by decide) ?_
      exact fr_iretP (x := (h.1 (k + 1) a1.toNatClampNeg)) (pc := 23) dX3_at_23 rfl hf
theorem dX3_set_0 : decode cX3_set 0 = .ok (.iload_n 1, 1) := by decide +kernel
theorem dX3_set_1 : decode cX3_set 1 = .ok (.ifCond .lt 19, 3) := by decide +kernel
theorem dX3_set_4 : decode cX3_set 4 = .ok (.iload_n 1, 1) := by decide +kernel
theorem dX3_set_5 : decode cX3_set 5 = .ok (.aload_n 0, 1) := by decide +kernel
theorem dX3_set_6 : decode cX3_set 6 = .ok (.getfield 13, 3) := by decide +kernel
theorem dX3_set_9 : decode cX3_set 9 = .ok (.arraylength, 1) := by decide +kernel
theorem dX3_set_10 : decode cX3_set 10 = .ok (.if_icmp .ge 10, 3) := by decide +kernel
theorem dX3_set_13 : decode cX3_set 13 = .ok (.aload_n 0, 1) := by decide +kernel
theorem dX3_set_14 : decode cX3_set 14 = .ok (.getfield 13, 3) := by decide +kernel
theorem dX3_set_17 : decode cX3_set 17 = .ok (.iload_n 1, 1) := by decide +kernel
theorem dX3_set_18 : decode cX3_set 18 = .ok (.iload_n 2, 1) := by decide +kernel
theorem dX3_set_19 : decode cX3_set 19 = .ok (.iastore, 1) := by decide +kernel
theorem dX3_set_20 : decode cX3_set 20 = .ok (.return_, 1) := by decide +kernel
def fX3_set (k : Nat) (n : Nat) (a1 : Int32) (a2 : Int32) (h : fd_H) : Option (fd_H) :=
if a1 < 0 then (
some h)
else (
if (Int32.ofNat n) ≤ a1 then (
some h)
else (
fd_g (fd_in a1 n) (
fd_lt (fd_ui h (k + 1) a1.toNatClampNeg a2) fun h4 =>
some h4)))
set_option maxRecDepth 100000 in
set_option maxHeartbeats 4000000 in
theorem sX3_set {g : fd_G} {hm : fd_H} {k : Nat} {n : Nat} {a1 : Int32} {a2 : Int32} {r : fd_H} (p0 : fd_isRow k n) {h : fd_H} (hf : fX3_set k n a1 a2 h = some r) : fd_S g mX3_set 0 [.ref (g.2.2.2 + k), .int a1, .int a2] fd_X0 (fd_mx h hm) none fd_X0 (fd_mx r hm) 0 0 := by
  refine fd_S.of (by decide +kernel) (Nat.le_of_ble_eq_true rfl) ?_
  unfold fX3_set at hf
  refine fr_loc (lv' := [(0, .ref (g.2.2.2 + k)), (1, .int a1), (2, .int a2)]) [0, 1, 2] rfl ?_
  refine fr_iload_n (pc := 0) dX3_set_0 1 rfl rfl ?_
  refine fr_if_lt (pc := 1) 20 dX3_set_1 (by decide) (fun c1 => ?_) (fun c1 => ?_)
  · have hf := fd_t c1 hf
    exact vx_vretW (pc := 20) dX3_set_20 rfl hf
  · have hf := fd_f c1 hf
    refine fr_iload_n (pc := 4) dX3_set_4 1 rfl rfl ?_
    refine fr_aload_n (pc := 5) dX3_set_5 0 rfl rfl ?_
    refine fr_getR (pc := 6) dX3_set_6 fl_X3_13 p0.b p0.s rfl ?_
    refine fr_alen (pc := 9) dX3_set_9 p0.ab p0.as (by decide) rfl ?_
    refine fr_icmp_ge (pc := 10) 20 dX3_set_10 (by decide) (fun c2 => ?_) (fun c2 => ?_)
    · have hf := fd_t c2 hf
      exact vx_vretW (pc := 20) dX3_set_20 rfl hf
    · have hf := fd_f c2 hf
      refine fr_aload_n (pc := 13) dX3_set_13 0 rfl rfl ?_
      refine fr_getR (pc := 14) dX3_set_14 fl_X3_13 p0.b p0.s rfl ?_
      refine fr_iload_n (pc := 17) dX3_set_17 1 rfl rfl ?_
      refine fr_iload_n (pc := 18) dX3_set_18 2 rfl rfl ?_
      obtain ⟨g3, hf⟩ := fd_g_e hf
      obtain ⟨h4, eh4, hf⟩ := fd_lt_e hf
      refine vx_iast (pc := 19) dX3_set_19 p0.ab p0.ax p0.as g3 eh4 ?_
      exact vx_vretW (pc := 20) dX3_set_20 rfl hf
theorem dX4_findingAt_0 : decode cX4_findingAt 0 = .ok (.aload_n 0, 1) := by decide +kernel
theorem dX4_findingAt_1 : decode cX4_findingAt 1 = .ok (.getfield 20, 3) := by decide +kernel
theorem dX4_findingAt_4 : decode cX4_findingAt 4 = .ok (.ifCond .eq 5, 3) := by decide +kernel
theorem dX4_findingAt_7 : decode cX4_findingAt 7 = .ok (.iconst 1, 1) := by decide +kernel
theorem dX4_findingAt_8 : decode cX4_findingAt 8 = .ok (.ireturn, 1) := by decide +kernel
theorem dX4_findingAt_9 : decode cX4_findingAt 9 = .ok (.aload_n 0, 1) := by decide +kernel
theorem dX4_findingAt_10 : decode cX4_findingAt 10 = .ok (.getfield 24, 3) := by decide +kernel
theorem dX4_findingAt_13 : decode cX4_findingAt 13 = .ok (.iload_n 1, 1) := by decide +kernel
theorem dX4_findingAt_14 : decode cX4_findingAt 14 = .ok (.if_icmp .eq 5, 3) := by decide +kernel
theorem dX4_findingAt_17 : decode cX4_findingAt 17 = .ok (.iconst 3, 1) := by decide +kernel
theorem dX4_findingAt_18 : decode cX4_findingAt 18 = .ok (.ireturn, 1) := by decide +kernel
theorem dX4_findingAt_19 : decode cX4_findingAt 19 = .ok (.iload_n 2, 1) := by decide +kernel
theorem dX4_findingAt_20 : decode cX4_findingAt 20 = .ok (.ifCond .lt 15, 3) := by decide +kernel
theorem dX4_findingAt_23 : decode cX4_findingAt 23 = .ok (.iload_n 2, 1) := by decide +kernel
theorem dX4_findingAt_24 : decode cX4_findingAt 24 = .ok (.aload_n 0, 1) := by decide +kernel
theorem dX4_findingAt_25 : decode cX4_findingAt 25 = .ok (.getfield 28, 3) := by decide +kernel
theorem dX4_findingAt_28 : decode cX4_findingAt 28 = .ok (.if_icmp .ge 7, 3) := by decide +kernel
theorem dX4_findingAt_31 : decode cX4_findingAt 31 = .ok (.iconst 0, 1) := by decide +kernel
theorem dX4_findingAt_32 : decode cX4_findingAt 32 = .ok (.goto 4, 3) := by decide +kernel
theorem dX4_findingAt_35 : decode cX4_findingAt 35 = .ok (.iconst 2, 1) := by decide +kernel
theorem dX4_findingAt_36 : decode cX4_findingAt 36 = .ok (.ireturn, 1) := by decide +kernel
def fX4_findingAt (k : Nat) (a1 : Int32) (a2 : Int32) (h : fd_H) : Option (Int32) :=
if (h.1 k 1) = 0 then (
if (h.1 k 2) = a1 then (
if a2 < 0 then (
some ((2 : Int32)))
else (
if (h.1 k 3) ≤ a2 then (
some ((2 : Int32)))
else (
some ((0 : Int32)))))
else (
some ((3 : Int32))))
else (
some ((1 : Int32)))
set_option maxRecDepth 100000 in
set_option maxHeartbeats 4000000 in
theorem sX4_findingAt {g : fd_G} {hm : fd_H} {k : Nat} {a1 : Int32} {a2 : Int32} {h : fd_H} {r : Int32} (p0 : fd_isSheet k) (hf : fX4_findingAt k a1 a2 h = some r) : fd_S g mX4_findingAt 0 [.ref (g.2.2.2 + k), .int a1, .int a2] fd_X0 (fd_mx h hm) (some (.int r)) fd_X0 (fd_mx h hm) 0 0 := by
  refine fd_S.of (by decide +kernel) (Nat.le_of_ble_eq_true rfl) ?_
  unfold fX4_findingAt at hf
  refine fr_loc (lv' := [(0, .ref (g.2.2.2 + k)), (1, .int a1), (2, .int a2)]) [0, 1, 2] rfl ?_
  refine fr_aload_n (pc := 0) dX4_findingAt_0 0 rfl rfl ?_
  refine vx_getI (pc := 1) dX4_findingAt_1 fl_X4_20 p0.b p0.x p0.s rfl ?_
  refine fr_if_eq (pc := 4) 9 dX4_findingAt_4 (by decide) (fun c1 => ?_) (fun c1 => ?_)
  · have hf := fd_t c1 hf
    refine fr_aload_n (pc := 9) dX4_findingAt_9 0 rfl rfl ?_
    refine vx_getI (pc := 10) dX4_findingAt_10 fl_X4_24 p0.b p0.x p0.s rfl ?_
    refine fr_iload_n (pc := 13) dX4_findingAt_13 1 rfl rfl ?_
    refine fr_icmp_eq (pc := 14) 19 dX4_findingAt_14 (by decide) (fun c2 => ?_) (fun c2 => ?_)
    · have hf := fd_t c2 hf
      refine fr_iload_n (pc := 19) dX4_findingAt_19 2 rfl rfl ?_
      refine fr_if_lt (pc := 20) 35 dX4_findingAt_20 (by decide) (fun c3 => ?_) (fun c3 => ?_)
      · have hf := fd_t c3 hf
        refine fr_iconst (pc := 35) (v := (2 : Int32)) dX4_findingAt_35 (by decide) ?_
        exact fr_iretP (x := (2 : Int32)) (pc := 36) dX4_findingAt_36 rfl hf
      · have hf := fd_f c3 hf
        refine fr_iload_n (pc := 23) dX4_findingAt_23 2 rfl rfl ?_
        refine fr_aload_n (pc := 24) dX4_findingAt_24 0 rfl rfl ?_
        refine vx_getI (pc := 25) dX4_findingAt_25 fl_X4_28 p0.b p0.x p0.s rfl ?_
        refine fr_icmp_ge (pc := 28) 35 dX4_findingAt_28 (by decide) (fun c4 => ?_) (fun c4 => ?_)
        · have hf := fd_t c4 hf
          refine fr_iconst (pc := 35) (v := (2 : Int32)) dX4_findingAt_35 (by decide) ?_
          exact fr_iretP (x := (2 : Int32)) (pc := 36) dX4_findingAt_36 rfl hf
        · have hf := fd_f c4 hf
          refine fr_iconst (pc := 31) (v := (0 : Int32)) dX4_findingAt_31 (by decide) ?_
          refine fr_goto (pc := 32) 36 dX4_findingAt_32 (by decide) ?_
          exact fr_iretP (x := (0 : Int32)) (pc := 36) dX4_findingAt_36 rfl hf
    · have hf := fd_f c2 hf
      refine fr_iconst (pc := 17) (v := (3 : Int32)) dX4_findingAt_17 (by decide) ?_
      exact fr_iretP (x := (3 : Int32)) (pc := 18) dX4_findingAt_18 rfl hf
  · have hf := fd_f c1 hf
    refine fr_iconst (pc := 7) (v := (1 : Int32)) dX4_findingAt_7 (by decide) ?_
    exact fr_iretP (x := (1 : Int32)) (pc := 8) dX4_findingAt_8 rfl hf
theorem dX4_hasRange_0 : decode cX4_hasRange 0 = .ok (.iload_n 1, 1) := by decide +kernel
theorem dX4_hasRange_1 : decode cX4_hasRange 1 = .ok (.ifCond .lt 29, 3) := by decide +kernel
theorem dX4_hasRange_4 : decode cX4_hasRange 4 = .ok (.iload_n 2, 1) := by decide +kernel
theorem dX4_hasRange_5 : decode cX4_hasRange 5 = .ok (.ifCond .lt 25, 3) := by decide +kernel
theorem dX4_hasRange_8 : decode cX4_hasRange 8 = .ok (.iload_n 2, 1) := by decide +kernel
theorem dX4_hasRange_9 : decode cX4_hasRange 9 = .ok (.aload_n 0, 1) := by decide +kernel
theorem dX4_hasRange_10 : decode cX4_hasRange 10 = .ok (.getfield 28, 3) := by decide +kernel
theorem dX4_hasRange_13 : decode cX4_hasRange 13 = .ok (.if_icmp .gt 17, 3) := by decide +kernel
theorem dX4_hasRange_16 : decode cX4_hasRange 16 = .ok (.iload_n 1, 1) := by decide +kernel
theorem dX4_hasRange_17 : decode cX4_hasRange 17 = .ok (.aload_n 0, 1) := by decide +kernel
theorem dX4_hasRange_18 : decode cX4_hasRange 18 = .ok (.getfield 28, 3) := by decide +kernel
theorem dX4_hasRange_21 : decode cX4_hasRange 21 = .ok (.iload_n 2, 1) := by decide +kernel
theorem dX4_hasRange_22 : decode cX4_hasRange 22 = .ok (.isub, 1) := by decide +kernel
theorem dX4_hasRange_23 : decode cX4_hasRange 23 = .ok (.if_icmp .gt 7, 3) := by decide +kernel
theorem dX4_hasRange_26 : decode cX4_hasRange 26 = .ok (.iconst 1, 1) := by decide +kernel
theorem dX4_hasRange_27 : decode cX4_hasRange 27 = .ok (.goto 4, 3) := by decide +kernel
theorem dX4_hasRange_30 : decode cX4_hasRange 30 = .ok (.iconst 0, 1) := by decide +kernel
theorem dX4_hasRange_31 : decode cX4_hasRange 31 = .ok (.ireturn, 1) := by decide +kernel
def fX4_hasRange (k : Nat) (a1 : Int32) (a2 : Int32) (h : fd_H) : Option (Bool) :=
if a1 < 0 then (
some (false))
else (
if a2 < 0 then (
some (false))
else (
if (h.1 k 3) < a2 then (
some (false))
else (
if ((h.1 k 3) - a2) < a1 then (
some (false))
else (
some (true)))))
set_option maxRecDepth 100000 in
set_option maxHeartbeats 4000000 in
theorem sX4_hasRange {g : fd_G} {hm : fd_H} {k : Nat} {a1 : Int32} {a2 : Int32} {h : fd_H} {r : Bool} (p0 : fd_isSheet k) (hf : fX4_hasRange k a1 a2 h = some r) : fd_S g mX4_hasRange 0 [.ref (g.2.2.2 + k), .int a1, .int a2] fd_X0 (fd_mx h hm) (some (.int (fd_b r))) fd_X0 (fd_mx h hm) 0 0 := by
  refine fd_S.of (by decide +kernel) (Nat.le_of_ble_eq_true rfl) ?_
  unfold fX4_hasRange at hf
  refine fr_loc (lv' := [(0, .ref (g.2.2.2 + k)), (1, .int a1), (2, .int a2)]) [0, 1, 2] rfl ?_
  refine fr_iload_n (pc := 0) dX4_hasRange_0 1 rfl rfl ?_
  refine fr_if_lt (pc := 1) 30 dX4_hasRange_1 (by decide) (fun c1 => ?_) (fun c1 => ?_)
  · have hf := fd_t c1 hf
    refine fr_iconst (pc := 30) (v := (0 : Int32)) dX4_hasRange_30 (by decide) ?_
    exact fr_zretP (x := false) (pc := 31) dX4_hasRange_31 rfl hf
  · have hf := fd_f c1 hf
    refine fr_iload_n (pc := 4) dX4_hasRange_4 2 rfl rfl ?_
    refine fr_if_lt (pc := 5) 30 dX4_hasRange_5 (by decide) (fun c2 => ?_) (fun c2 => ?_)
    · have hf := fd_t c2 hf
      refine fr_iconst (pc := 30) (v := (0 : Int32)) dX4_hasRange_30 (by decide) ?_
      exact fr_zretP (x := false) (pc := 31) dX4_hasRange_31 rfl hf
    · have hf := fd_f c2 hf
      refine fr_iload_n (pc := 8) dX4_hasRange_8 2 rfl rfl ?_
      refine fr_aload_n (pc := 9) dX4_hasRange_9 0 rfl rfl ?_
      refine vx_getI (pc := 10) dX4_hasRange_10 fl_X4_28 p0.b p0.x p0.s rfl ?_
      refine fr_icmp_gt (pc := 13) 30 dX4_hasRange_13 (by decide) (fun c3 => ?_) (fun c3 => ?_)
      · have hf := fd_t c3 hf
        refine fr_iconst (pc := 30) (v := (0 : Int32)) dX4_hasRange_30 (by decide) ?_
        exact fr_zretP (x := false) (pc := 31) dX4_hasRange_31 rfl hf
      · have hf := fd_f c3 hf
        refine fr_iload_n (pc := 16) dX4_hasRange_16 1 rfl rfl ?_
        refine fr_aload_n (pc := 17) dX4_hasRange_17 0 rfl rfl ?_
        refine vx_getI (pc := 18) dX4_hasRange_18 fl_X4_28 p0.b p0.x p0.s rfl ?_
        refine fr_iload_n (pc := 21) dX4_hasRange_21 2 rfl rfl ?_
        refine fr_isub (pc := 22) dX4_hasRange_22 ?_
        refine fr_icmp_gt (pc := 23) 30 dX4_hasRange_23 (by decide) (fun c4 => ?_) (fun c4 => ?_)
        · have hf := fd_t c4 hf
          refine fr_iconst (pc := 30) (v := (0 : Int32)) dX4_hasRange_30 (by decide) ?_
          exact fr_zretP (x := false) (pc := 31) dX4_hasRange_31 rfl hf
        · have hf := fd_f c4 hf
          refine fr_iconst (pc := 26) (v := (1 : Int32)) dX4_hasRange_26 (by decide) ?_
          refine fr_goto (pc := 27) 31 dX4_hasRange_27 (by decide) ?_
          exact fr_zretP (x := true) (pc := 31) dX4_hasRange_31 rfl hf
theorem dX5_at_0 : decode cX5_at 0 = .ok (.iload_n 1, 1) := by decide +kernel
theorem dX5_at_1 : decode cX5_at 1 = .ok (.ifCond .lt 21, 3) := by decide +kernel
theorem dX5_at_4 : decode cX5_at 4 = .ok (.iload_n 1, 1) := by decide +kernel
theorem dX5_at_5 : decode cX5_at 5 = .ok (.aload_n 0, 1) := by decide +kernel
theorem dX5_at_6 : decode cX5_at 6 = .ok (.getfield 9, 3) := by decide +kernel
theorem dX5_at_9 : decode cX5_at 9 = .ok (.arraylength, 1) := by decide +kernel
theorem dX5_at_10 : decode cX5_at 10 = .ok (.if_icmp .ge 12, 3) := by decide +kernel
theorem dX5_at_13 : decode cX5_at 13 = .ok (.aload_n 0, 1) := by decide +kernel
theorem dX5_at_14 : decode cX5_at 14 = .ok (.getfield 9, 3) := by decide +kernel
theorem dX5_at_17 : decode cX5_at 17 = .ok (.iload_n 1, 1) := by decide +kernel
theorem dX5_at_18 : decode cX5_at 18 = .ok (.laload, 1) := by decide +kernel
theorem dX5_at_19 : decode cX5_at 19 = .ok (.goto 4, 3) := by decide +kernel
theorem dX5_at_22 : decode cX5_at 22 = .ok (.lconst 0, 1) := by decide +kernel
theorem dX5_at_23 : decode cX5_at 23 = .ok (.lreturn, 1) := by decide +kernel
def fX5_at (k : Nat) (a1 : Int32) (h : fd_H) : Option (Int64) :=
if a1 < 0 then (
some ((0 : Int64)))
else (
if (Int32.ofNat 8) ≤ a1 then (
some ((0 : Int64)))
else (
fd_g (fd_in a1 8) (
some ((h.2 (k + 1) a1.toNatClampNeg)))))
set_option maxRecDepth 100000 in
set_option maxHeartbeats 4000000 in
theorem sX5_at {g : fd_G} {hm : fd_H} {k : Nat} {a1 : Int32} {h : fd_H} {r : Int64} (p0 : fd_isSpans k) (hf : fX5_at k a1 h = some r) : fd_S g mX5_at 0 [.ref (g.2.2.2 + k), .int a1] fd_X0 (fd_mx h hm) (some (.long r)) fd_X0 (fd_mx h hm) 0 0 := by
  refine fd_S.of (by decide +kernel) (Nat.le_of_ble_eq_true rfl) ?_
  unfold fX5_at at hf
  refine fr_loc (lv' := [(0, .ref (g.2.2.2 + k)), (1, .int a1)]) [0, 1] rfl ?_
  refine fr_iload_n (pc := 0) dX5_at_0 1 rfl rfl ?_
  refine fr_if_lt (pc := 1) 22 dX5_at_1 (by decide) (fun c1 => ?_) (fun c1 => ?_)
  · have hf := fd_t c1 hf
    refine fr_lconst (pc := 22) (v := (0 : Int64)) dX5_at_22 (by decide) ?_
    exact fr_lretP (x := (0 : Int64)) (pc := 23) dX5_at_23 rfl hf
  · have hf := fd_f c1 hf
    refine fr_iload_n (pc := 4) dX5_at_4 1 rfl rfl ?_
    refine fr_aload_n (pc := 5) dX5_at_5 0 rfl rfl ?_
    refine fr_getR (pc := 6) dX5_at_6 fl_X5_9 p0.b p0.s rfl ?_
    refine fr_alen (pc := 9) dX5_at_9 p0.ab p0.as (by decide) rfl ?_
    refine fr_icmp_ge (pc := 10) 22 dX5_at_10 (by decide) (fun c2 => ?_) (fun c2 => ?_)
    · have hf := fd_t c2 hf
      refine fr_lconst (pc := 22) (v := (0 : Int64)) dX5_at_22 (by decide) ?_
      exact fr_lretP (x := (0 : Int64)) (pc := 23) dX5_at_23 rfl hf
    · have hf := fd_f c2 hf
      refine fr_aload_n (pc := 13) dX5_at_13 0 rfl rfl ?_
      refine fr_getR (pc := 14) dX5_at_14 fl_X5_9 p0.b p0.s rfl ?_
      refine fr_iload_n (pc := 17) dX5_at_17 1 rfl rfl ?_
      obtain ⟨g3, hf⟩ := fd_g_e hf
      refine vx_lald (pc := 18) dX5_at_18 p0.ab p0.ax p0.as g3 ?_
      refine fr_goto (pc := 19) 23 dX5_at_19 (by decide) ?_
      exact fr_lretP (x := (h.2 (k + 1) a1.toNatClampNeg)) (pc := 23) dX5_at_23 rfl hf
theorem dX5_set_0 : decode cX5_set 0 = .ok (.iload_n 1, 1) := by decide +kernel
theorem dX5_set_1 : decode cX5_set 1 = .ok (.ifCond .lt 19, 3) := by decide +kernel
theorem dX5_set_4 : decode cX5_set 4 = .ok (.iload_n 1, 1) := by decide +kernel
theorem dX5_set_5 : decode cX5_set 5 = .ok (.aload_n 0, 1) := by decide +kernel
theorem dX5_set_6 : decode cX5_set 6 = .ok (.getfield 9, 3) := by decide +kernel
theorem dX5_set_9 : decode cX5_set 9 = .ok (.arraylength, 1) := by decide +kernel
theorem dX5_set_10 : decode cX5_set 10 = .ok (.if_icmp .ge 10, 3) := by decide +kernel
theorem dX5_set_13 : decode cX5_set 13 = .ok (.aload_n 0, 1) := by decide +kernel
theorem dX5_set_14 : decode cX5_set 14 = .ok (.getfield 9, 3) := by decide +kernel
theorem dX5_set_17 : decode cX5_set 17 = .ok (.iload_n 1, 1) := by decide +kernel
theorem dX5_set_18 : decode cX5_set 18 = .ok (.lload_n 2, 1) := by decide +kernel
theorem dX5_set_19 : decode cX5_set 19 = .ok (.lastore, 1) := by decide +kernel
theorem dX5_set_20 : decode cX5_set 20 = .ok (.return_, 1) := by decide +kernel
def fX5_set (k : Nat) (a1 : Int32) (a2 : Int64) (h : fd_H) : Option (fd_H) :=
if a1 < 0 then (
some h)
else (
if (Int32.ofNat 8) ≤ a1 then (
some h)
else (
fd_g (fd_in a1 8) (
fd_lt (fd_ul h (k + 1) a1.toNatClampNeg a2) fun h4 =>
some h4)))
set_option maxRecDepth 100000 in
set_option maxHeartbeats 4000000 in
theorem sX5_set {g : fd_G} {hm : fd_H} {k : Nat} {a1 : Int32} {a2 : Int64} {r : fd_H} (p0 : fd_isSpans k) {h : fd_H} (hf : fX5_set k a1 a2 h = some r) : fd_S g mX5_set 0 [.ref (g.2.2.2 + k), .int a1, .long a2] fd_X0 (fd_mx h hm) none fd_X0 (fd_mx r hm) 0 0 := by
  refine fd_S.of (by decide +kernel) (Nat.le_of_ble_eq_true rfl) ?_
  unfold fX5_set at hf
  refine fr_loc (lv' := [(0, .ref (g.2.2.2 + k)), (1, .int a1), (2, .long a2)]) [0, 1, 2] rfl ?_
  refine fr_iload_n (pc := 0) dX5_set_0 1 rfl rfl ?_
  refine fr_if_lt (pc := 1) 20 dX5_set_1 (by decide) (fun c1 => ?_) (fun c1 => ?_)
  · have hf := fd_t c1 hf
    exact vx_vretW (pc := 20) dX5_set_20 rfl hf
  · have hf := fd_f c1 hf
    refine fr_iload_n (pc := 4) dX5_set_4 1 rfl rfl ?_
    refine fr_aload_n (pc := 5) dX5_set_5 0 rfl rfl ?_
    refine fr_getR (pc := 6) dX5_set_6 fl_X5_9 p0.b p0.s rfl ?_
    refine fr_alen (pc := 9) dX5_set_9 p0.ab p0.as (by decide) rfl ?_
    refine fr_icmp_ge (pc := 10) 20 dX5_set_10 (by decide) (fun c2 => ?_) (fun c2 => ?_)
    · have hf := fd_t c2 hf
      exact vx_vretW (pc := 20) dX5_set_20 rfl hf
    · have hf := fd_f c2 hf
      refine fr_aload_n (pc := 13) dX5_set_13 0 rfl rfl ?_
      refine fr_getR (pc := 14) dX5_set_14 fl_X5_9 p0.b p0.s rfl ?_
      refine fr_iload_n (pc := 17) dX5_set_17 1 rfl rfl ?_
      refine fr_lload_n (pc := 18) dX5_set_18 2 rfl rfl ?_
      obtain ⟨g3, hf⟩ := fd_g_e hf
      obtain ⟨h4, eh4, hf⟩ := fd_lt_e hf
      refine vx_last (pc := 19) dX5_set_19 p0.ab p0.ax p0.as g3 eh4 ?_
      exact vx_vretW (pc := 20) dX5_set_20 rfl hf
theorem dX8_forget_0 : decode cX8_forget 0 = .ok (.aload_n 0, 1) := by decide +kernel
theorem dX8_forget_1 : decode cX8_forget 1 = .ok (.getfield 40, 3) := by decide +kernel
theorem dX8_forget_4 : decode cX8_forget 4 = .ok (.getfield 130, 3) := by decide +kernel
theorem dX8_forget_7 : decode cX8_forget 7 = .ok (.istore_n 1, 1) := by decide +kernel
theorem dX8_forget_8 : decode cX8_forget 8 = .ok (.aload_n 0, 1) := by decide +kernel
theorem dX8_forget_9 : decode cX8_forget 9 = .ok (.getfield 40, 3) := by decide +kernel
theorem dX8_forget_12 : decode cX8_forget 12 = .ok (.iconst 0, 1) := by decide +kernel
theorem dX8_forget_13 : decode cX8_forget 13 = .ok (.putfield 130, 3) := by decide +kernel
theorem dX8_forget_16 : decode cX8_forget 16 = .ok (.iload_n 1, 1) := by decide +kernel
theorem dX8_forget_17 : decode cX8_forget 17 = .ok (.ireturn, 1) := by decide +kernel
def fX8_forget  (h : fd_H) : Option (Int32 × fd_H) :=
fd_lt ((h.1 51 3)) fun x1 =>
fd_lt (fd_ui h 51 3 (0 : Int32)) fun h2 =>
some (x1, h2)
set_option maxRecDepth 100000 in
set_option maxHeartbeats 4000000 in
theorem sX8_forget {g : fd_G} {hm : fd_H} {r : Int32 × fd_H} {h : fd_H} (hf : fX8_forget  h = some r) : fd_S g mX8_forget 0 [.ref (g.2.2.2 + 0)] fd_X0 (fd_mx h hm) (some (.int r.1)) fd_X0 (fd_mx r.2 hm) 0 0 := by
  refine fd_S.of (by decide +kernel) (Nat.le_of_ble_eq_true rfl) ?_
  unfold fX8_forget at hf
  refine fr_loc (lv' := [(0, .ref (g.2.2.2 + 0))]) [0] rfl ?_
  refine fr_aload_n (pc := 0) dX8_forget_0 0 rfl rfl ?_
  refine fr_getR (pc := 1) dX8_forget_1 fl_X8_40 (by decide) rfl rfl ?_
  refine vx_getI (pc := 4) dX8_forget_4 fl_X8_130 (by decide) (by decide) rfl rfl ?_
  obtain ⟨x1, ex1, hf⟩ := fd_lt_e hf
  refine fr_nmi ex1 ?_
  refine fr_istore_n (pc := 7) (lv' := [(1, .int x1), (0, .ref (g.2.2.2 + 0))]) dX8_forget_7 rfl (by decide) rfl ?_
  refine fr_aload_n (pc := 8) dX8_forget_8 1 rfl rfl ?_
  refine fr_getR (pc := 9) dX8_forget_9 fl_X8_40 (by decide) rfl rfl ?_
  refine fr_iconst (pc := 12) (v := (0 : Int32)) dX8_forget_12 (by decide) ?_
  obtain ⟨h2, eh2, hf⟩ := fd_lt_e hf
  refine vx_putI (pc := 13) dX8_forget_13 fl_X8_130 ft_X1_3 (by decide) (by decide) rfl rfl eh2 ?_
  refine fr_iload_n (pc := 16) dX8_forget_16 0 rfl rfl ?_
  exact vx_iretW (x := x1) (pc := 17) dX8_forget_17 rfl hf
theorem dX8_count_0 : decode cX8_count 0 = .ok (.iload_n 1, 1) := by decide +kernel
theorem dX8_count_1 : decode cX8_count 1 = .ok (.tableswitch 151 0 8 #[51, 59, 67, 75, 85, 95, 105, 138, 146], 51) := by decide +kernel
theorem dX8_count_52 : decode cX8_count 52 = .ok (.aload_n 0, 1) := by decide +kernel
theorem dX8_count_53 : decode cX8_count 53 = .ok (.getfield 29, 3) := by decide +kernel
theorem dX8_count_56 : decode cX8_count 56 = .ok (.getfield 150, 3) := by decide +kernel
theorem dX8_count_59 : decode cX8_count 59 = .ok (.ireturn, 1) := by decide +kernel
theorem dX8_count_60 : decode cX8_count 60 = .ok (.aload_n 0, 1) := by decide +kernel
theorem dX8_count_61 : decode cX8_count 61 = .ok (.getfield 21, 3) := by decide +kernel
theorem dX8_count_64 : decode cX8_count 64 = .ok (.getfield 98, 3) := by decide +kernel
theorem dX8_count_67 : decode cX8_count 67 = .ok (.ireturn, 1) := by decide +kernel
theorem dX8_count_68 : decode cX8_count 68 = .ok (.aload_n 0, 1) := by decide +kernel
theorem dX8_count_69 : decode cX8_count 69 = .ok (.getfield 33, 3) := by decide +kernel
theorem dX8_count_72 : decode cX8_count 72 = .ok (.getfield 104, 3) := by decide +kernel
theorem dX8_count_75 : decode cX8_count 75 = .ok (.ireturn, 1) := by decide +kernel
theorem dX8_count_76 : decode cX8_count 76 = .ok (.aload_n 0, 1) := by decide +kernel
theorem dX8_count_77 : decode cX8_count 77 = .ok (.getfield 14, 3) := by decide +kernel
theorem dX8_count_80 : decode cX8_count 80 = .ok (.iconst 0, 1) := by decide +kernel
theorem dX8_count_81 : decode cX8_count 81 = .ok (.aaload, 1) := by decide +kernel
theorem dX8_count_82 : decode cX8_count 82 = .ok (.getfield 73, 3) := by decide +kernel
theorem dX8_count_85 : decode cX8_count 85 = .ok (.ireturn, 1) := by decide +kernel
theorem dX8_count_86 : decode cX8_count 86 = .ok (.aload_n 0, 1) := by decide +kernel
theorem dX8_count_87 : decode cX8_count 87 = .ok (.getfield 14, 3) := by decide +kernel
theorem dX8_count_90 : decode cX8_count 90 = .ok (.iconst 1, 1) := by decide +kernel
theorem dX8_count_91 : decode cX8_count 91 = .ok (.aaload, 1) := by decide +kernel
theorem dX8_count_92 : decode cX8_count 92 = .ok (.getfield 73, 3) := by decide +kernel
theorem dX8_count_95 : decode cX8_count 95 = .ok (.ireturn, 1) := by decide +kernel
theorem dX8_count_96 : decode cX8_count 96 = .ok (.aload_n 0, 1) := by decide +kernel
theorem dX8_count_97 : decode cX8_count 97 = .ok (.getfield 14, 3) := by decide +kernel
theorem dX8_count_100 : decode cX8_count 100 = .ok (.iconst 2, 1) := by decide +kernel
theorem dX8_count_101 : decode cX8_count 101 = .ok (.aaload, 1) := by decide +kernel
theorem dX8_count_102 : decode cX8_count 102 = .ok (.getfield 73, 3) := by decide +kernel
theorem dX8_count_105 : decode cX8_count 105 = .ok (.ireturn, 1) := by decide +kernel
theorem dX8_count_106 : decode cX8_count 106 = .ok (.aload_n 0, 1) := by decide +kernel
theorem dX8_count_107 : decode cX8_count 107 = .ok (.getfield 21, 3) := by decide +kernel
theorem dX8_count_110 : decode cX8_count 110 = .ok (.getfield 117, 3) := by decide +kernel
theorem dX8_count_113 : decode cX8_count 113 = .ok (.getfield 130, 3) := by decide +kernel
theorem dX8_count_116 : decode cX8_count 116 = .ok (.aload_n 0, 1) := by decide +kernel
theorem dX8_count_117 : decode cX8_count 117 = .ok (.getfield 21, 3) := by decide +kernel
theorem dX8_count_120 : decode cX8_count 120 = .ok (.getfield 124, 3) := by decide +kernel
theorem dX8_count_123 : decode cX8_count 123 = .ok (.getfield 130, 3) := by decide +kernel
theorem dX8_count_126 : decode cX8_count 126 = .ok (.iadd, 1) := by decide +kernel
theorem dX8_count_127 : decode cX8_count 127 = .ok (.aload_n 0, 1) := by decide +kernel
theorem dX8_count_128 : decode cX8_count 128 = .ok (.getfield 21, 3) := by decide +kernel
theorem dX8_count_131 : decode cX8_count 131 = .ok (.getfield 127, 3) := by decide +kernel
theorem dX8_count_134 : decode cX8_count 134 = .ok (.getfield 130, 3) := by decide +kernel
theorem dX8_count_137 : decode cX8_count 137 = .ok (.iadd, 1) := by decide +kernel
theorem dX8_count_138 : decode cX8_count 138 = .ok (.ireturn, 1) := by decide +kernel
theorem dX8_count_139 : decode cX8_count 139 = .ok (.aload_n 0, 1) := by decide +kernel
theorem dX8_count_140 : decode cX8_count 140 = .ok (.getfield 40, 3) := by decide +kernel
theorem dX8_count_143 : decode cX8_count 143 = .ok (.getfield 130, 3) := by decide +kernel
theorem dX8_count_146 : decode cX8_count 146 = .ok (.ireturn, 1) := by decide +kernel
theorem dX8_count_147 : decode cX8_count 147 = .ok (.aload_n 0, 1) := by decide +kernel
theorem dX8_count_148 : decode cX8_count 148 = .ok (.getfield 58, 3) := by decide +kernel
theorem dX8_count_151 : decode cX8_count 151 = .ok (.ireturn, 1) := by decide +kernel
theorem dX8_count_152 : decode cX8_count 152 = .ok (.bipush (-2), 2) := by decide +kernel
theorem dX8_count_154 : decode cX8_count 154 = .ok (.ireturn, 1) := by decide +kernel
def fX8_count (a1 : Int32) (h : fd_H) : Option (Int32) :=
if a1 = (0 : Int32) then (
some ((h.1 12 3)))
else (if a1 = (1 : Int32) then (
some ((h.1 11 5)))
else (if a1 = (2 : Int32) then (
some ((h.1 48 1)))
else (if a1 = (3 : Int32) then (
fd_g (fd_in (0 : Int32) 3) (
some ((h.1 (2 + 3 * (0 : Int32).toNatClampNeg) 2))))
else (if a1 = (4 : Int32) then (
fd_g (fd_in (1 : Int32) 3) (
some ((h.1 (2 + 3 * (1 : Int32).toNatClampNeg) 2))))
else (if a1 = (5 : Int32) then (
fd_g (fd_in (2 : Int32) 3) (
some ((h.1 (2 + 3 * (2 : Int32).toNatClampNeg) 2))))
else (if a1 = (6 : Int32) then (
some ((((h.1 19 3) + (h.1 26 3)) + (h.1 33 3))))
else (if a1 = (7 : Int32) then (
some ((h.1 51 3)))
else (if a1 = (8 : Int32) then (
some ((h.1 0 7)))
else (some ((-2 : Int32)))))))))))
set_option maxRecDepth 100000 in
set_option maxHeartbeats 4000000 in
theorem sX8_count {g : fd_G} {hm : fd_H} {a1 : Int32} {h : fd_H} {r : Int32} (hf : fX8_count a1 h = some r) : fd_S g mX8_count 0 [.ref (g.2.2.2 + 0), .int a1] fd_X0 (fd_mx h hm) (some (.int r)) fd_X0 (fd_mx h hm) 0 0 := by
  refine fd_S.of (by decide +kernel) (Nat.le_of_ble_eq_true rfl) ?_
  unfold fX8_count at hf
  refine fr_loc (lv' := [(0, .ref (g.2.2.2 + 0)), (1, .int a1)]) [0, 1] rfl ?_
  refine fr_iload_n (pc := 0) dX8_count_0 1 rfl rfl ?_
  rcases Decidable.em (a1 = (0 : Int32)) with c1 | c1
  · have hf := fd_t c1 hf
    refine fr_tabIn (pc := 1) 52 dX8_count_1 (by rw [c1]; decide) (by rw [c1]; decide) (by rw [c1]; rfl) (by decide) ?_
    refine fr_aload_n (pc := 52) dX8_count_52 0 rfl rfl ?_
    refine fr_getR (pc := 53) dX8_count_53 fl_X8_29 (by decide) rfl rfl ?_
    refine vx_getI (pc := 56) dX8_count_56 fl_X8_150 (by decide) (by decide) rfl rfl ?_
    exact fr_iretP (x := (h.1 12 3)) (pc := 59) dX8_count_59 rfl hf
  · have hf := fd_f c1 hf
    rcases Decidable.em (a1 = (1 : Int32)) with c2 | c2
    · have hf := fd_t c2 hf
      refine fr_tabIn (pc := 1) 60 dX8_count_1 (by rw [c2]; decide) (by rw [c2]; decide) (by rw [c2]; rfl) (by decide) ?_
      refine fr_aload_n (pc := 60) dX8_count_60 0 rfl rfl ?_
      refine fr_getR (pc := 61) dX8_count_61 fl_X8_21 (by decide) rfl rfl ?_
      refine vx_getI (pc := 64) dX8_count_64 fl_X8_98 (by decide) (by decide) rfl rfl ?_
      exact fr_iretP (x := (h.1 11 5)) (pc := 67) dX8_count_67 rfl hf
    · have hf := fd_f c2 hf
      rcases Decidable.em (a1 = (2 : Int32)) with c3 | c3
      · have hf := fd_t c3 hf
        refine fr_tabIn (pc := 1) 68 dX8_count_1 (by rw [c3]; decide) (by rw [c3]; decide) (by rw [c3]; rfl) (by decide) ?_
        refine fr_aload_n (pc := 68) dX8_count_68 0 rfl rfl ?_
        refine fr_getR (pc := 69) dX8_count_69 fl_X8_33 (by decide) rfl rfl ?_
        refine vx_getI (pc := 72) dX8_count_72 fl_X8_104 (by decide) (by decide) rfl rfl ?_
        exact fr_iretP (x := (h.1 48 1)) (pc := 75) dX8_count_75 rfl hf
      · have hf := fd_f c3 hf
        rcases Decidable.em (a1 = (3 : Int32)) with c4 | c4
        · have hf := fd_t c4 hf
          refine fr_tabIn (pc := 1) 76 dX8_count_1 (by rw [c4]; decide) (by rw [c4]; decide) (by rw [c4]; rfl) (by decide) ?_
          refine fr_aload_n (pc := 76) dX8_count_76 0 rfl rfl ?_
          refine fr_getR (pc := 77) dX8_count_77 fl_X8_14 (by decide) rfl rfl ?_
          refine fr_iconst (pc := 80) (v := (0 : Int32)) dX8_count_80 (by decide) ?_
          obtain ⟨g5, hf⟩ := fd_g_e hf
          refine fr_aaldT (pc := 81) dX8_count_81 (by decide) rfl g5 rfl ?_
          refine vx_getI (pc := 82) dX8_count_82 fl_X8_73 (fd_isTextA g5).b (fd_isTextA g5).x (fd_isTextA g5).s rfl ?_
          exact fr_iretP (x := (h.1 (2 + 3 * (0 : Int32).toNatClampNeg) 2)) (pc := 85) dX8_count_85 rfl hf
        · have hf := fd_f c4 hf
          rcases Decidable.em (a1 = (4 : Int32)) with c6 | c6
          · have hf := fd_t c6 hf
            refine fr_tabIn (pc := 1) 86 dX8_count_1 (by rw [c6]; decide) (by rw [c6]; decide) (by rw [c6]; rfl) (by decide) ?_
            refine fr_aload_n (pc := 86) dX8_count_86 0 rfl rfl ?_
            refine fr_getR (pc := 87) dX8_count_87 fl_X8_14 (by decide) rfl rfl ?_
            refine fr_iconst (pc := 90) (v := (1 : Int32)) dX8_count_90 (by decide) ?_
            obtain ⟨g7, hf⟩ := fd_g_e hf
            refine fr_aaldT (pc := 91) dX8_count_91 (by decide) rfl g7 rfl ?_
            refine vx_getI (pc := 92) dX8_count_92 fl_X8_73 (fd_isTextA g7).b (fd_isTextA g7).x (fd_isTextA g7).s rfl ?_
            exact fr_iretP (x := (h.1 (2 + 3 * (1 : Int32).toNatClampNeg) 2)) (pc := 95) dX8_count_95 rfl hf
          · have hf := fd_f c6 hf
            rcases Decidable.em (a1 = (5 : Int32)) with c8 | c8
            · have hf := fd_t c8 hf
              refine fr_tabIn (pc := 1) 96 dX8_count_1 (by rw [c8]; decide) (by rw [c8]; decide) (by rw [c8]; rfl) (by decide) ?_
              refine fr_aload_n (pc := 96) dX8_count_96 0 rfl rfl ?_
              refine fr_getR (pc := 97) dX8_count_97 fl_X8_14 (by decide) rfl rfl ?_
              refine fr_iconst (pc := 100) (v := (2 : Int32)) dX8_count_100 (by decide) ?_
              obtain ⟨g9, hf⟩ := fd_g_e hf
              refine fr_aaldT (pc := 101) dX8_count_101 (by decide) rfl g9 rfl ?_
              refine vx_getI (pc := 102) dX8_count_102 fl_X8_73 (fd_isTextA g9).b (fd_isTextA g9).x (fd_isTextA g9).s rfl ?_
              exact fr_iretP (x := (h.1 (2 + 3 * (2 : Int32).toNatClampNeg) 2)) (pc := 105) dX8_count_105 rfl hf
            · have hf := fd_f c8 hf
              rcases Decidable.em (a1 = (6 : Int32)) with c10 | c10
              · have hf := fd_t c10 hf
                refine fr_tabIn (pc := 1) 106 dX8_count_1 (by rw [c10]; decide) (by rw [c10]; decide) (by rw [c10]; rfl) (by decide) ?_
                refine fr_aload_n (pc := 106) dX8_count_106 0 rfl rfl ?_
                refine fr_getR (pc := 107) dX8_count_107 fl_X8_21 (by decide) rfl rfl ?_
                refine fr_getR (pc := 110) dX8_count_110 fl_X8_117 (by decide) rfl rfl ?_
                refine vx_getI (pc := 113) dX8_count_113 fl_X8_130 (by decide) (by decide) rfl rfl ?_
                refine fr_aload_n (pc := 116) dX8_count_116 0 rfl rfl ?_
                refine fr_getR (pc := 117) dX8_count_117 fl_X8_21 (by decide) rfl rfl ?_
                refine fr_getR (pc := 120) dX8_count_120 fl_X8_124 (by decide) rfl rfl ?_
                refine vx_getI (pc := 123) dX8_count_123 fl_X8_130 (by decide) (by decide) rfl rfl ?_
                refine fr_iadd (pc := 126) dX8_count_126 ?_
                refine fr_aload_n (pc := 127) dX8_count_127 0 rfl rfl ?_
                refine fr_getR (pc := 128) dX8_count_128 fl_X8_21 (by decide) rfl rfl ?_
                refine fr_getR (pc := 131) dX8_count_131 fl_X8_127 (by decide) rfl rfl ?_
                refine vx_getI (pc := 134) dX8_count_134 fl_X8_130 (by decide) (by decide) rfl rfl ?_
                refine fr_iadd (pc := 137) dX8_count_137 ?_
                exact fr_iretP (x := (((h.1 19 3) + (h.1 26 3)) + (h.1 33 3))) (pc := 138) dX8_count_138 rfl hf
              · have hf := fd_f c10 hf
                rcases Decidable.em (a1 = (7 : Int32)) with c11 | c11
                · have hf := fd_t c11 hf
                  refine fr_tabIn (pc := 1) 139 dX8_count_1 (by rw [c11]; decide) (by rw [c11]; decide) (by rw [c11]; rfl) (by decide) ?_
                  refine fr_aload_n (pc := 139) dX8_count_139 0 rfl rfl ?_
                  refine fr_getR (pc := 140) dX8_count_140 fl_X8_40 (by decide) rfl rfl ?_
                  refine vx_getI (pc := 143) dX8_count_143 fl_X8_130 (by decide) (by decide) rfl rfl ?_
                  exact fr_iretP (x := (h.1 51 3)) (pc := 146) dX8_count_146 rfl hf
                · have hf := fd_f c11 hf
                  rcases Decidable.em (a1 = (8 : Int32)) with c12 | c12
                  · have hf := fd_t c12 hf
                    refine fr_tabIn (pc := 1) 147 dX8_count_1 (by rw [c12]; decide) (by rw [c12]; decide) (by rw [c12]; rfl) (by decide) ?_
                    refine fr_aload_n (pc := 147) dX8_count_147 0 rfl rfl ?_
                    refine vx_getI (pc := 148) dX8_count_148 fl_X8_58 (by decide) (by decide) rfl rfl ?_
                    exact fr_iretP (x := (h.1 0 7)) (pc := 151) dX8_count_151 rfl hf
                  · have hf := fd_f c12 hf
                    have tc1 : ¬ (a1).toInt = 0 := lv_neT c1 rfl
                    have tc2 : ¬ (a1).toInt = 1 := lv_neT c2 rfl
                    have tc3 : ¬ (a1).toInt = 2 := lv_neT c3 rfl
                    have tc4 : ¬ (a1).toInt = 3 := lv_neT c4 rfl
                    have tc6 : ¬ (a1).toInt = 4 := lv_neT c6 rfl
                    have tc8 : ¬ (a1).toInt = 5 := lv_neT c8 rfl
                    have tc10 : ¬ (a1).toInt = 6 := lv_neT c10 rfl
                    have tc11 : ¬ (a1).toInt = 7 := lv_neT c11 rfl
                    have tc12 : ¬ (a1).toInt = 8 := lv_neT c12 rfl
                    refine fr_tabOut (pc := 1) 152 dX8_count_1 (by omega) (by decide) ?_
                    refine fr_bipush (pc := 152) (v := (-2 : Int32)) dX8_count_152 (by decide) ?_
                    exact fr_iretP (x := (-2 : Int32)) (pc := 154) dX8_count_154 rfl hf
theorem dX8_isBelow_0 : decode cX8_isBelow 0 = .ok (.iload_n 0, 1) := by decide +kernel
theorem dX8_isBelow_1 : decode cX8_isBelow 1 = .ok (.ifCond .lt 12, 3) := by decide +kernel
theorem dX8_isBelow_4 : decode cX8_isBelow 4 = .ok (.iload_n 0, 1) := by decide +kernel
theorem dX8_isBelow_5 : decode cX8_isBelow 5 = .ok (.iload_n 1, 1) := by decide +kernel
theorem dX8_isBelow_6 : decode cX8_isBelow 6 = .ok (.if_icmp .ge 7, 3) := by decide +kernel
theorem dX8_isBelow_9 : decode cX8_isBelow 9 = .ok (.iconst 1, 1) := by decide +kernel
theorem dX8_isBelow_10 : decode cX8_isBelow 10 = .ok (.goto 4, 3) := by decide +kernel
theorem dX8_isBelow_13 : decode cX8_isBelow 13 = .ok (.iconst 0, 1) := by decide +kernel
theorem dX8_isBelow_14 : decode cX8_isBelow 14 = .ok (.ireturn, 1) := by decide +kernel
def fX8_isBelow (a0 : Int32) (a1 : Int32) : Option (Bool) :=
if a0 < 0 then (
some (false))
else (
if a1 ≤ a0 then (
some (false))
else (
some (true)))
set_option maxRecDepth 100000 in
set_option maxHeartbeats 4000000 in
theorem sX8_isBelow {g : fd_G} {a0 : Int32} {a1 : Int32} {h : fd_H} {r : Bool} (hf : fX8_isBelow a0 a1 = some r) : fd_S g mX8_isBelow 0 [.int a0, .int a1] fd_X0 h (some (.int (fd_b r))) fd_X0 h 0 0 := by
  refine fd_S.of (by decide +kernel) (Nat.le_of_ble_eq_true rfl) ?_
  unfold fX8_isBelow at hf
  refine fr_loc (lv' := [(0, .int a0), (1, .int a1)]) [0, 1] rfl ?_
  refine fr_iload_n (pc := 0) dX8_isBelow_0 0 rfl rfl ?_
  refine fr_if_lt (pc := 1) 13 dX8_isBelow_1 (by decide) (fun c1 => ?_) (fun c1 => ?_)
  · have hf := fd_t c1 hf
    refine fr_iconst (pc := 13) (v := (0 : Int32)) dX8_isBelow_13 (by decide) ?_
    exact fr_zretP (x := false) (pc := 14) dX8_isBelow_14 rfl hf
  · have hf := fd_f c1 hf
    refine fr_iload_n (pc := 4) dX8_isBelow_4 0 rfl rfl ?_
    refine fr_iload_n (pc := 5) dX8_isBelow_5 1 rfl rfl ?_
    refine fr_icmp_ge (pc := 6) 13 dX8_isBelow_6 (by decide) (fun c2 => ?_) (fun c2 => ?_)
    · have hf := fd_t c2 hf
      refine fr_iconst (pc := 13) (v := (0 : Int32)) dX8_isBelow_13 (by decide) ?_
      exact fr_zretP (x := false) (pc := 14) dX8_isBelow_14 rfl hf
    · have hf := fd_f c2 hf
      refine fr_iconst (pc := 9) (v := (1 : Int32)) dX8_isBelow_9 (by decide) ?_
      refine fr_goto (pc := 10) 14 dX8_isBelow_10 (by decide) ?_
      exact fr_zretP (x := true) (pc := 14) dX8_isBelow_14 rfl hf
theorem dX8_isChoice_0 : decode cX8_isChoice 0 = .ok (.iload_n 0, 1) := by decide +kernel
theorem dX8_isChoice_1 : decode cX8_isChoice 1 = .ok (.iconst (-1), 1) := by decide +kernel
theorem dX8_isChoice_2 : decode cX8_isChoice 2 = .ok (.if_icmp .lt 12, 3) := by decide +kernel
theorem dX8_isChoice_5 : decode cX8_isChoice 5 = .ok (.iload_n 0, 1) := by decide +kernel
theorem dX8_isChoice_6 : decode cX8_isChoice 6 = .ok (.iload_n 1, 1) := by decide +kernel
theorem dX8_isChoice_7 : decode cX8_isChoice 7 = .ok (.if_icmp .ge 7, 3) := by decide +kernel
theorem dX8_isChoice_10 : decode cX8_isChoice 10 = .ok (.iconst 1, 1) := by decide +kernel
theorem dX8_isChoice_11 : decode cX8_isChoice 11 = .ok (.goto 4, 3) := by decide +kernel
theorem dX8_isChoice_14 : decode cX8_isChoice 14 = .ok (.iconst 0, 1) := by decide +kernel
theorem dX8_isChoice_15 : decode cX8_isChoice 15 = .ok (.ireturn, 1) := by decide +kernel
def fX8_isChoice (a0 : Int32) (a1 : Int32) : Option (Bool) :=
if a0 < (-1 : Int32) then (
some (false))
else (
if a1 ≤ a0 then (
some (false))
else (
some (true)))
set_option maxRecDepth 100000 in
set_option maxHeartbeats 4000000 in
theorem sX8_isChoice {g : fd_G} {a0 : Int32} {a1 : Int32} {h : fd_H} {r : Bool} (hf : fX8_isChoice a0 a1 = some r) : fd_S g mX8_isChoice 0 [.int a0, .int a1] fd_X0 h (some (.int (fd_b r))) fd_X0 h 0 0 := by
  refine fd_S.of (by decide +kernel) (Nat.le_of_ble_eq_true rfl) ?_
  unfold fX8_isChoice at hf
  refine fr_loc (lv' := [(0, .int a0), (1, .int a1)]) [0, 1] rfl ?_
  refine fr_iload_n (pc := 0) dX8_isChoice_0 0 rfl rfl ?_
  refine fr_iconst (pc := 1) (v := (-1 : Int32)) dX8_isChoice_1 (by decide) ?_
  refine fr_icmp_lt (pc := 2) 14 dX8_isChoice_2 (by decide) (fun c1 => ?_) (fun c1 => ?_)
  · have hf := fd_t c1 hf
    refine fr_iconst (pc := 14) (v := (0 : Int32)) dX8_isChoice_14 (by decide) ?_
    exact fr_zretP (x := false) (pc := 15) dX8_isChoice_15 rfl hf
  · have hf := fd_f c1 hf
    refine fr_iload_n (pc := 5) dX8_isChoice_5 0 rfl rfl ?_
    refine fr_iload_n (pc := 6) dX8_isChoice_6 1 rfl rfl ?_
    refine fr_icmp_ge (pc := 7) 14 dX8_isChoice_7 (by decide) (fun c2 => ?_) (fun c2 => ?_)
    · have hf := fd_t c2 hf
      refine fr_iconst (pc := 14) (v := (0 : Int32)) dX8_isChoice_14 (by decide) ?_
      exact fr_zretP (x := false) (pc := 15) dX8_isChoice_15 rfl hf
    · have hf := fd_f c2 hf
      refine fr_iconst (pc := 10) (v := (1 : Int32)) dX8_isChoice_10 (by decide) ?_
      refine fr_goto (pc := 11) 15 dX8_isChoice_11 (by decide) ?_
      exact fr_zretP (x := true) (pc := 15) dX8_isChoice_15 rfl hf
theorem dX8_isEnded_0 : decode cX8_isEnded 0 = .ok (.iload_n 1, 1) := by decide +kernel
theorem dX8_isEnded_1 : decode cX8_isEnded 1 = .ok (.ifCond .eq 8, 3) := by decide +kernel
theorem dX8_isEnded_4 : decode cX8_isEnded 4 = .ok (.iload_n 0, 1) := by decide +kernel
theorem dX8_isEnded_5 : decode cX8_isEnded 5 = .ok (.iconst 1, 1) := by decide +kernel
theorem dX8_isEnded_6 : decode cX8_isEnded 6 = .ok (.if_icmp .ne 5, 3) := by decide +kernel
theorem dX8_isEnded_9 : decode cX8_isEnded 9 = .ok (.iconst 1, 1) := by decide +kernel
theorem dX8_isEnded_10 : decode cX8_isEnded 10 = .ok (.ireturn, 1) := by decide +kernel
theorem dX8_isEnded_11 : decode cX8_isEnded 11 = .ok (.iload_n 0, 1) := by decide +kernel
theorem dX8_isEnded_12 : decode cX8_isEnded 12 = .ok (.ifCond .ne 16, 3) := by decide +kernel
theorem dX8_isEnded_15 : decode cX8_isEnded 15 = .ok (.iload_n 1, 1) := by decide +kernel
theorem dX8_isEnded_16 : decode cX8_isEnded 16 = .ok (.iconst 3, 1) := by decide +kernel
theorem dX8_isEnded_17 : decode cX8_isEnded 17 = .ok (.irem, 1) := by decide +kernel
theorem dX8_isEnded_18 : decode cX8_isEnded 18 = .ok (.iconst 2, 1) := by decide +kernel
theorem dX8_isEnded_19 : decode cX8_isEnded 19 = .ok (.if_icmp .ne 7, 3) := by decide +kernel
theorem dX8_isEnded_22 : decode cX8_isEnded 22 = .ok (.iconst 1, 1) := by decide +kernel
theorem dX8_isEnded_23 : decode cX8_isEnded 23 = .ok (.goto 4, 3) := by decide +kernel
theorem dX8_isEnded_26 : decode cX8_isEnded 26 = .ok (.iconst 0, 1) := by decide +kernel
theorem dX8_isEnded_27 : decode cX8_isEnded 27 = .ok (.ireturn, 1) := by decide +kernel
theorem dX8_isEnded_28 : decode cX8_isEnded 28 = .ok (.iload_n 1, 1) := by decide +kernel
theorem dX8_isEnded_29 : decode cX8_isEnded 29 = .ok (.bipush 8, 2) := by decide +kernel
theorem dX8_isEnded_31 : decode cX8_isEnded 31 = .ok (.irem, 1) := by decide +kernel
theorem dX8_isEnded_32 : decode cX8_isEnded 32 = .ok (.bipush 7, 2) := by decide +kernel
theorem dX8_isEnded_34 : decode cX8_isEnded 34 = .ok (.if_icmp .ne 7, 3) := by decide +kernel
theorem dX8_isEnded_37 : decode cX8_isEnded 37 = .ok (.iconst 1, 1) := by decide +kernel
theorem dX8_isEnded_38 : decode cX8_isEnded 38 = .ok (.goto 4, 3) := by decide +kernel
theorem dX8_isEnded_41 : decode cX8_isEnded 41 = .ok (.iconst 0, 1) := by decide +kernel
theorem dX8_isEnded_42 : decode cX8_isEnded 42 = .ok (.ireturn, 1) := by decide +kernel
def fX8_isEnded (a0 : Int32) (a1 : Int32) : Option (Bool) :=
if a1 = 0 then (
some (true))
else (
if a0 = (1 : Int32) then (
some (true))
else (
if a0 = 0 then (
if (fd_irem a1 (3 : Int32)) = (2 : Int32) then (
some (true))
else (
some (false)))
else (
if (fd_irem a1 (8 : Int32)) = (7 : Int32) then (
some (true))
else (
some (false)))))
set_option maxRecDepth 100000 in
set_option maxHeartbeats 4000000 in
theorem sX8_isEnded {g : fd_G} {a0 : Int32} {a1 : Int32} {h : fd_H} {r : Bool} (hf : fX8_isEnded a0 a1 = some r) : fd_S g mX8_isEnded 0 [.int a0, .int a1] fd_X0 h (some (.int (fd_b r))) fd_X0 h 0 0 := by
  refine fd_S.of (by decide +kernel) (Nat.le_of_ble_eq_true rfl) ?_
  unfold fX8_isEnded at hf
  refine fr_loc (lv' := [(0, .int a0), (1, .int a1)]) [0, 1] rfl ?_
  refine fr_iload_n (pc := 0) dX8_isEnded_0 1 rfl rfl ?_
  refine fr_if_eq (pc := 1) 9 dX8_isEnded_1 (by decide) (fun c1 => ?_) (fun c1 => ?_)
  · have hf := fd_t c1 hf
    refine fr_iconst (pc := 9) (v := (1 : Int32)) dX8_isEnded_9 (by decide) ?_
    exact fr_zretP (x := true) (pc := 10) dX8_isEnded_10 rfl hf
  · have hf := fd_f c1 hf
    refine fr_iload_n (pc := 4) dX8_isEnded_4 0 rfl rfl ?_
    refine fr_iconst (pc := 5) (v := (1 : Int32)) dX8_isEnded_5 (by decide) ?_
    refine fr_icmp_ne (pc := 6) 11 dX8_isEnded_6 (by decide) (fun c2 => ?_) (fun c2 => ?_)
    · have hf := fd_f c2 hf
      refine fr_iload_n (pc := 11) dX8_isEnded_11 0 rfl rfl ?_
      refine fr_if_ne (pc := 12) 28 dX8_isEnded_12 (by decide) (fun c3 => ?_) (fun c3 => ?_)
      · have hf := fd_f c3 hf
        refine fr_iload_n (pc := 28) dX8_isEnded_28 1 rfl rfl ?_
        refine fr_bipush (pc := 29) (v := (8 : Int32)) dX8_isEnded_29 (by decide) ?_
        refine fr_irem (pc := 31) dX8_isEnded_31 (by decide) ?_
        refine fr_bipush (pc := 32) (v := (7 : Int32)) dX8_isEnded_32 (by decide) ?_
        refine fr_icmp_ne (pc := 34) 41 dX8_isEnded_34 (by decide) (fun c4 => ?_) (fun c4 => ?_)
        · have hf := fd_f c4 hf
          refine fr_iconst (pc := 41) (v := (0 : Int32)) dX8_isEnded_41 (by decide) ?_
          exact fr_zretP (x := false) (pc := 42) dX8_isEnded_42 rfl hf
        · have hf := fd_t c4 hf
          refine fr_iconst (pc := 37) (v := (1 : Int32)) dX8_isEnded_37 (by decide) ?_
          refine fr_goto (pc := 38) 42 dX8_isEnded_38 (by decide) ?_
          exact fr_zretP (x := true) (pc := 42) dX8_isEnded_42 rfl hf
      · have hf := fd_t c3 hf
        refine fr_iload_n (pc := 15) dX8_isEnded_15 1 rfl rfl ?_
        refine fr_iconst (pc := 16) (v := (3 : Int32)) dX8_isEnded_16 (by decide) ?_
        refine fr_irem (pc := 17) dX8_isEnded_17 (by decide) ?_
        refine fr_iconst (pc := 18) (v := (2 : Int32)) dX8_isEnded_18 (by decide) ?_
        refine fr_icmp_ne (pc := 19) 26 dX8_isEnded_19 (by decide) (fun c5 => ?_) (fun c5 => ?_)
        · have hf := fd_f c5 hf
          refine fr_iconst (pc := 26) (v := (0 : Int32)) dX8_isEnded_26 (by decide) ?_
          exact fr_zretP (x := false) (pc := 27) dX8_isEnded_27 rfl hf
        · have hf := fd_t c5 hf
          refine fr_iconst (pc := 22) (v := (1 : Int32)) dX8_isEnded_22 (by decide) ?_
          refine fr_goto (pc := 23) 27 dX8_isEnded_23 (by decide) ?_
          exact fr_zretP (x := true) (pc := 27) dX8_isEnded_27 rfl hf
    · have hf := fd_t c2 hf
      refine fr_iconst (pc := 9) (v := (1 : Int32)) dX8_isEnded_9 (by decide) ?_
      exact fr_zretP (x := true) (pc := 10) dX8_isEnded_10 rfl hf
theorem dX8_isFigure_0 : decode cX8_isFigure 0 = .ok (.iload_n 0, 1) := by decide +kernel
theorem dX8_isFigure_1 : decode cX8_isFigure 1 = .ok (.bipush 48, 2) := by decide +kernel
theorem dX8_isFigure_3 : decode cX8_isFigure 3 = .ok (.if_icmp .lt 15, 3) := by decide +kernel
theorem dX8_isFigure_6 : decode cX8_isFigure 6 = .ok (.iload_n 0, 1) := by decide +kernel
theorem dX8_isFigure_7 : decode cX8_isFigure 7 = .ok (.bipush 48, 2) := by decide +kernel
theorem dX8_isFigure_9 : decode cX8_isFigure 9 = .ok (.iload_n 1, 1) := by decide +kernel
theorem dX8_isFigure_10 : decode cX8_isFigure 10 = .ok (.iadd, 1) := by decide +kernel
theorem dX8_isFigure_11 : decode cX8_isFigure 11 = .ok (.if_icmp .gt 7, 3) := by decide +kernel
theorem dX8_isFigure_14 : decode cX8_isFigure 14 = .ok (.iconst 1, 1) := by decide +kernel
theorem dX8_isFigure_15 : decode cX8_isFigure 15 = .ok (.goto 4, 3) := by decide +kernel
theorem dX8_isFigure_18 : decode cX8_isFigure 18 = .ok (.iconst 0, 1) := by decide +kernel
theorem dX8_isFigure_19 : decode cX8_isFigure 19 = .ok (.ireturn, 1) := by decide +kernel
def fX8_isFigure (a0 : Int32) (a1 : Int32) : Option (Bool) :=
if a0 < (48 : Int32) then (
some (false))
else (
if ((48 : Int32) + a1) < a0 then (
some (false))
else (
some (true)))
set_option maxRecDepth 100000 in
set_option maxHeartbeats 4000000 in
theorem sX8_isFigure {g : fd_G} {a0 : Int32} {a1 : Int32} {h : fd_H} {r : Bool} (hf : fX8_isFigure a0 a1 = some r) : fd_S g mX8_isFigure 0 [.int a0, .int a1] fd_X0 h (some (.int (fd_b r))) fd_X0 h 0 0 := by
  refine fd_S.of (by decide +kernel) (Nat.le_of_ble_eq_true rfl) ?_
  unfold fX8_isFigure at hf
  refine fr_loc (lv' := [(0, .int a0), (1, .int a1)]) [0, 1] rfl ?_
  refine fr_iload_n (pc := 0) dX8_isFigure_0 0 rfl rfl ?_
  refine fr_bipush (pc := 1) (v := (48 : Int32)) dX8_isFigure_1 (by decide) ?_
  refine fr_icmp_lt (pc := 3) 18 dX8_isFigure_3 (by decide) (fun c1 => ?_) (fun c1 => ?_)
  · have hf := fd_t c1 hf
    refine fr_iconst (pc := 18) (v := (0 : Int32)) dX8_isFigure_18 (by decide) ?_
    exact fr_zretP (x := false) (pc := 19) dX8_isFigure_19 rfl hf
  · have hf := fd_f c1 hf
    refine fr_iload_n (pc := 6) dX8_isFigure_6 0 rfl rfl ?_
    refine fr_bipush (pc := 7) (v := (48 : Int32)) dX8_isFigure_7 (by decide) ?_
    refine fr_iload_n (pc := 9) dX8_isFigure_9 1 rfl rfl ?_
    refine fr_iadd (pc := 10) dX8_isFigure_10 ?_
    refine fr_icmp_gt (pc := 11) 18 dX8_isFigure_11 (by decide) (fun c2 => ?_) (fun c2 => ?_)
    · have hf := fd_t c2 hf
      refine fr_iconst (pc := 18) (v := (0 : Int32)) dX8_isFigure_18 (by decide) ?_
      exact fr_zretP (x := false) (pc := 19) dX8_isFigure_19 rfl hf
    · have hf := fd_f c2 hf
      refine fr_iconst (pc := 14) (v := (1 : Int32)) dX8_isFigure_14 (by decide) ?_
      refine fr_goto (pc := 15) 19 dX8_isFigure_15 (by decide) ?_
      exact fr_zretP (x := true) (pc := 19) dX8_isFigure_19 rfl hf
theorem dX8_kindOf_0 : decode cX8_kindOf 0 = .ok (.iload_n 0, 1) := by decide +kernel
theorem dX8_kindOf_1 : decode cX8_kindOf 1 = .ok (.lookupswitch 51 #[(104, 45), (111, 43), (115, 49), (119, 47)], 43) := by decide +kernel
theorem dX8_kindOf_44 : decode cX8_kindOf 44 = .ok (.iconst 0, 1) := by decide +kernel
theorem dX8_kindOf_45 : decode cX8_kindOf 45 = .ok (.ireturn, 1) := by decide +kernel
theorem dX8_kindOf_46 : decode cX8_kindOf 46 = .ok (.iconst 1, 1) := by decide +kernel
theorem dX8_kindOf_47 : decode cX8_kindOf 47 = .ok (.ireturn, 1) := by decide +kernel
theorem dX8_kindOf_48 : decode cX8_kindOf 48 = .ok (.iconst 2, 1) := by decide +kernel
theorem dX8_kindOf_49 : decode cX8_kindOf 49 = .ok (.ireturn, 1) := by decide +kernel
theorem dX8_kindOf_50 : decode cX8_kindOf 50 = .ok (.iconst 3, 1) := by decide +kernel
theorem dX8_kindOf_51 : decode cX8_kindOf 51 = .ok (.ireturn, 1) := by decide +kernel
theorem dX8_kindOf_52 : decode cX8_kindOf 52 = .ok (.iconst (-1), 1) := by decide +kernel
theorem dX8_kindOf_53 : decode cX8_kindOf 53 = .ok (.ireturn, 1) := by decide +kernel
def fX8_kindOf (a0 : Int32) : Option (Int32) :=
if a0 = (104 : Int32) then (
some ((1 : Int32)))
else (if a0 = (111 : Int32) then (
some ((0 : Int32)))
else (if a0 = (115 : Int32) then (
some ((3 : Int32)))
else (if a0 = (119 : Int32) then (
some ((2 : Int32)))
else (some ((-1 : Int32))))))
set_option maxRecDepth 100000 in
set_option maxHeartbeats 4000000 in
theorem sX8_kindOf {g : fd_G} {a0 : Int32} {h : fd_H} {r : Int32} (hf : fX8_kindOf a0 = some r) : fd_S g mX8_kindOf 0 [.int a0] fd_X0 h (some (.int r)) fd_X0 h 0 0 := by
  refine fd_S.of (by decide +kernel) (Nat.le_of_ble_eq_true rfl) ?_
  unfold fX8_kindOf at hf
  refine fr_loc (lv' := [(0, .int a0)]) [0] rfl ?_
  refine fr_iload_n (pc := 0) dX8_kindOf_0 0 rfl rfl ?_
  rcases Decidable.em (a0 = (104 : Int32)) with c1 | c1
  · have hf := fd_t c1 hf
    refine fr_lookup (off := 45) (pc := 1) 46 dX8_kindOf_1 (by decide) (by rw [c1]; first | done | rfl) (by decide) ?_
    refine fr_iconst (pc := 46) (v := (1 : Int32)) dX8_kindOf_46 (by decide) ?_
    exact fr_iretP (x := (1 : Int32)) (pc := 47) dX8_kindOf_47 rfl hf
  · have hf := fd_f c1 hf
    rcases Decidable.em (a0 = (111 : Int32)) with c2 | c2
    · have hf := fd_t c2 hf
      refine fr_lookup (off := 43) (pc := 1) 44 dX8_kindOf_1 (by decide) (by rw [c2]; first | done | rfl) (by decide) ?_
      refine fr_iconst (pc := 44) (v := (0 : Int32)) dX8_kindOf_44 (by decide) ?_
      exact fr_iretP (x := (0 : Int32)) (pc := 45) dX8_kindOf_45 rfl hf
    · have hf := fd_f c2 hf
      rcases Decidable.em (a0 = (115 : Int32)) with c3 | c3
      · have hf := fd_t c3 hf
        refine fr_lookup (off := 49) (pc := 1) 50 dX8_kindOf_1 (by decide) (by rw [c3]; first | done | rfl) (by decide) ?_
        refine fr_iconst (pc := 50) (v := (3 : Int32)) dX8_kindOf_50 (by decide) ?_
        exact fr_iretP (x := (3 : Int32)) (pc := 51) dX8_kindOf_51 rfl hf
      · have hf := fd_f c3 hf
        rcases Decidable.em (a0 = (119 : Int32)) with c4 | c4
        · have hf := fd_t c4 hf
          refine fr_lookup (off := 47) (pc := 1) 48 dX8_kindOf_1 (by decide) (by rw [c4]; first | done | rfl) (by decide) ?_
          refine fr_iconst (pc := 48) (v := (2 : Int32)) dX8_kindOf_48 (by decide) ?_
          exact fr_iretP (x := (2 : Int32)) (pc := 49) dX8_kindOf_49 rfl hf
        · have hf := fd_f c4 hf
          refine fr_lookup (off := 51) (pc := 1) 52 dX8_kindOf_1 (by decide) (Eq.trans (lv_osw c1 rfl) (Eq.trans (lv_osw c2 rfl) (Eq.trans (lv_osw c3 rfl) (Eq.trans (lv_osw c4 rfl) (rfl))))) (by decide) ?_
          refine fr_iconst (pc := 52) (v := (-1 : Int32)) dX8_kindOf_52 (by decide) ?_
          exact fr_iretP (x := (-1 : Int32)) (pc := 53) dX8_kindOf_53 rfl hf
theorem dX8_cloudsBySeed_0 : decode cX8_cloudsBySeed 0 = .ok (.lconst 0, 1) := by decide +kernel
theorem dX8_cloudsBySeed_1 : decode cX8_cloudsBySeed 1 = .ok (.lstore_n 2, 1) := by decide +kernel
theorem dX8_cloudsBySeed_2 : decode cX8_cloudsBySeed 2 = .ok (.iload_n 1, 1) := by decide +kernel
theorem dX8_cloudsBySeed_3 : decode cX8_cloudsBySeed 3 = .ok (.istore 4, 2) := by decide +kernel
theorem dX8_cloudsBySeed_5 : decode cX8_cloudsBySeed 5 = .ok (.iconst 0, 1) := by decide +kernel
theorem dX8_cloudsBySeed_6 : decode cX8_cloudsBySeed 6 = .ok (.istore 5, 2) := by decide +kernel
theorem dX8_cloudsBySeed_8 : decode cX8_cloudsBySeed 8 = .ok (.iload 5, 2) := by decide +kernel
theorem dX8_cloudsBySeed_10 : decode cX8_cloudsBySeed 10 = .ok (.aload_n 0, 1) := by decide +kernel
theorem dX8_cloudsBySeed_11 : decode cX8_cloudsBySeed 11 = .ok (.getfield 21, 3) := by decide +kernel
theorem dX8_cloudsBySeed_14 : decode cX8_cloudsBySeed 14 = .ok (.getfield 98, 3) := by decide +kernel
theorem dX8_cloudsBySeed_17 : decode cX8_cloudsBySeed 17 = .ok (.if_icmp .ge 38, 3) := by decide +kernel
theorem dX8_cloudsBySeed_20 : decode cX8_cloudsBySeed 20 = .ok (.iload 4, 2) := by decide +kernel
theorem dX8_cloudsBySeed_22 : decode cX8_cloudsBySeed 22 = .ok (.ldc_w 336, 3) := by decide +kernel
theorem dX8_cloudsBySeed_25 : decode cX8_cloudsBySeed 25 = .ok (.imul, 1) := by decide +kernel
theorem dX8_cloudsBySeed_26 : decode cX8_cloudsBySeed 26 = .ok (.sipush 12345, 3) := by decide +kernel
theorem dX8_cloudsBySeed_29 : decode cX8_cloudsBySeed 29 = .ok (.iadd, 1) := by decide +kernel
theorem dX8_cloudsBySeed_30 : decode cX8_cloudsBySeed 30 = .ok (.istore 4, 2) := by decide +kernel
theorem dX8_cloudsBySeed_32 : decode cX8_cloudsBySeed 32 = .ok (.iload 4, 2) := by decide +kernel
theorem dX8_cloudsBySeed_34 : decode cX8_cloudsBySeed 34 = .ok (.bipush 16, 2) := by decide +kernel
theorem dX8_cloudsBySeed_36 : decode cX8_cloudsBySeed 36 = .ok (.iushr, 1) := by decide +kernel
theorem dX8_cloudsBySeed_37 : decode cX8_cloudsBySeed 37 = .ok (.iconst 4, 1) := by decide +kernel
theorem dX8_cloudsBySeed_38 : decode cX8_cloudsBySeed 38 = .ok (.irem, 1) := by decide +kernel
theorem dX8_cloudsBySeed_39 : decode cX8_cloudsBySeed 39 = .ok (.ifCond .ne 10, 3) := by decide +kernel
theorem dX8_cloudsBySeed_42 : decode cX8_cloudsBySeed 42 = .ok (.lload_n 2, 1) := by decide +kernel
theorem dX8_cloudsBySeed_43 : decode cX8_cloudsBySeed 43 = .ok (.lconst 1, 1) := by decide +kernel
theorem dX8_cloudsBySeed_44 : decode cX8_cloudsBySeed 44 = .ok (.iload 5, 2) := by decide +kernel
theorem dX8_cloudsBySeed_46 : decode cX8_cloudsBySeed 46 = .ok (.lshl, 1) := by decide +kernel
theorem dX8_cloudsBySeed_47 : decode cX8_cloudsBySeed 47 = .ok (.lor, 1) := by decide +kernel
theorem dX8_cloudsBySeed_48 : decode cX8_cloudsBySeed 48 = .ok (.lstore_n 2, 1) := by decide +kernel
theorem dX8_cloudsBySeed_49 : decode cX8_cloudsBySeed 49 = .ok (.iinc 5 1, 3) := by decide +kernel
theorem dX8_cloudsBySeed_52 : decode cX8_cloudsBySeed 52 = .ok (.goto (-44), 3) := by decide +kernel
theorem dX8_cloudsBySeed_55 : decode cX8_cloudsBySeed 55 = .ok (.lload_n 2, 1) := by decide +kernel
theorem dX8_cloudsBySeed_56 : decode cX8_cloudsBySeed 56 = .ok (.lreturn, 1) := by decide +kernel
def fX8_cloudsBySeed_L8 (a1 : Int32) (h : fd_H) : Nat → Int64 → Int32 → Int32 → Option (Int64)
  | 0 => fun _ _ _ => none
  | n + 1 => fun v2 v4 v5 =>
if (h.1 11 5) ≤ v5 then (
some (v2))
else (
fd_lt (((v4 * (1103515245 : Int32)) + (12345 : Int32))) fun x2 =>
if (fd_irem (fd_iushr x2 (16 : Int32)) (4 : Int32)) = 0 then (
fd_lt ((v2 ||| (fd_lshl (1 : Int64) v5))) fun x4 =>
fX8_cloudsBySeed_L8 a1 h n x4 x2 (v5 + (1 : Int32)))
else (
fX8_cloudsBySeed_L8 a1 h n v2 x2 (v5 + (1 : Int32))))
set_option maxRecDepth 100000 in
set_option maxHeartbeats 4000000 in
theorem sX8_cloudsBySeed_L8 {g : fd_G} {hm : fd_H} {a1 : Int32} {h : fd_H} {r : Int64} : ∀ (n : Nat) (v2 : Int64) (v4 : Int32) (v5 : Int32), fX8_cloudsBySeed_L8 a1 h n v2 v4 v5 = some r → fd_A g mX8_cloudsBySeed fd_E (fd_rm 0 0 0) (fd_Q g (some (.long r)) fd_X0 (fd_mx h hm) 0 0) 8 [(0, .ref (g.2.2.2 + 0)), (2, .long v2), (4, .int v4), (5, .int v5)] [] fd_X0 (fd_mx h hm) 0 0 := by
  intro n
  induction n with
  | zero =>
    intro _ _ _ hf
    cases hf
  | succ n ih =>
    intro v2 v4 v5 hf
    rw [fX8_cloudsBySeed_L8] at hf
    refine fr_iload (pc := 8) dX8_cloudsBySeed_8 3 rfl ?_
    refine fr_aload_n (pc := 10) dX8_cloudsBySeed_10 0 rfl rfl ?_
    refine fr_getR (pc := 11) dX8_cloudsBySeed_11 fl_X8_21 (by decide) rfl rfl ?_
    refine vx_getI (pc := 14) dX8_cloudsBySeed_14 fl_X8_98 (by decide) (by decide) rfl rfl ?_
    refine fr_icmp_ge (pc := 17) 55 dX8_cloudsBySeed_17 (by decide) (fun c1 => ?_) (fun c1 => ?_)
    · have hf := fd_t c1 hf
      refine fr_lload_n (pc := 55) dX8_cloudsBySeed_55 1 rfl rfl ?_
      exact fr_lretP (x := v2) (pc := 56) dX8_cloudsBySeed_56 rfl hf
    · have hf := fd_f c1 hf
      refine fr_iload (pc := 20) dX8_cloudsBySeed_20 2 rfl ?_
      refine fr_ldcw (pc := 22) (v := (1103515245 : Int32)) dX8_cloudsBySeed_22 kw_20 ?_
      refine fr_imul (pc := 25) dX8_cloudsBySeed_25 ?_
      refine fr_sipush (pc := 26) (v := (12345 : Int32)) dX8_cloudsBySeed_26 (by decide) ?_
      refine fr_iadd (pc := 29) dX8_cloudsBySeed_29 ?_
      obtain ⟨x2, ex2, hf⟩ := fd_lt_e hf
      refine fr_nmi ex2 ?_
      refine fr_istore (pc := 30) (lv' := [(4, .int x2), (0, .ref (g.2.2.2 + 0)), (2, .long v2), (5, .int v5)]) dX8_cloudsBySeed_30 (by decide) rfl ?_
      refine fr_iload (pc := 32) dX8_cloudsBySeed_32 0 rfl ?_
      refine fr_bipush (pc := 34) (v := (16 : Int32)) dX8_cloudsBySeed_34 (by decide) ?_
      refine fr_iushr (pc := 36) dX8_cloudsBySeed_36 ?_
      refine fr_iconst (pc := 37) (v := (4 : Int32)) dX8_cloudsBySeed_37 (by decide) ?_
      refine fr_irem (pc := 38) dX8_cloudsBySeed_38 (by decide) ?_
      refine fr_if_ne (pc := 39) 49 dX8_cloudsBySeed_39 (by decide) (fun c3 => ?_) (fun c3 => ?_)
      · have hf := fd_f c3 hf
        refine fr_iinc (pc := 49) (v := (v5 + (1 : Int32))) (lv' := [(5, .int (v5 + (1 : Int32))), (4, .int x2), (0, .ref (g.2.2.2 + 0)), (2, .long v2)]) dX8_cloudsBySeed_49 3 rfl rfl (by decide) rfl ?_
        refine fr_goto (pc := 52) 8 dX8_cloudsBySeed_52 (by decide) ?_
        refine fr_loc (lv' := [(0, .ref (g.2.2.2 + 0)), (2, .long v2), (4, .int x2), (5, .int (v5 + (1 : Int32)))]) [2, 3, 1, 0] rfl ?_
        exact ih _ _ _ hf
      · have hf := fd_t c3 hf
        refine fr_lload_n (pc := 42) dX8_cloudsBySeed_42 2 rfl rfl ?_
        refine fr_lconst (pc := 43) (v := (1 : Int64)) dX8_cloudsBySeed_43 (by decide) ?_
        refine fr_iload (pc := 44) dX8_cloudsBySeed_44 3 rfl ?_
        refine fr_lshl (pc := 46) dX8_cloudsBySeed_46 ?_
        refine fr_lor (pc := 47) dX8_cloudsBySeed_47 ?_
        obtain ⟨x4, ex4, hf⟩ := fd_lt_e hf
        refine fr_nml ex4 ?_
        refine fr_lstore_n (pc := 48) (lv' := [(2, .long x4), (4, .int x2), (0, .ref (g.2.2.2 + 0)), (5, .int v5)]) dX8_cloudsBySeed_48 rfl (by decide) rfl ?_
        refine fr_iinc (pc := 49) (v := (v5 + (1 : Int32))) (lv' := [(5, .int (v5 + (1 : Int32))), (2, .long x4), (4, .int x2), (0, .ref (g.2.2.2 + 0))]) dX8_cloudsBySeed_49 3 rfl rfl (by decide) rfl ?_
        refine fr_goto (pc := 52) 8 dX8_cloudsBySeed_52 (by decide) ?_
        refine fr_loc (lv' := [(0, .ref (g.2.2.2 + 0)), (2, .long x4), (4, .int x2), (5, .int (v5 + (1 : Int32)))]) [3, 1, 2, 0] rfl ?_
        exact ih _ _ _ hf
def fX8_cloudsBySeed (a1 : Int32) (h : fd_H) : Option (Int64) :=
fX8_cloudsBySeed_L8 a1 h fd_fu (0 : Int64) a1 (0 : Int32)
set_option maxRecDepth 100000 in
set_option maxHeartbeats 4000000 in
theorem sX8_cloudsBySeed {g : fd_G} {hm : fd_H} {a1 : Int32} {h : fd_H} {r : Int64} (hf : fX8_cloudsBySeed a1 h = some r) : fd_S g mX8_cloudsBySeed 0 [.ref (g.2.2.2 + 0), .int a1] fd_X0 (fd_mx h hm) (some (.long r)) fd_X0 (fd_mx h hm) 0 0 := by
  refine fd_S.of (by decide +kernel) (Nat.le_of_ble_eq_true rfl) ?_
  unfold fX8_cloudsBySeed at hf
  refine fr_loc (lv' := [(0, .ref (g.2.2.2 + 0)), (1, .int a1)]) [0, 1] rfl ?_
  refine fr_lconst (pc := 0) (v := (0 : Int64)) dX8_cloudsBySeed_0 (by decide) ?_
  refine fr_lstore_n (pc := 1) (lv' := [(2, .long (0 : Int64)), (0, .ref (g.2.2.2 + 0)), (1, .int a1)]) dX8_cloudsBySeed_1 rfl (by decide) rfl ?_
  refine fr_iload_n (pc := 2) dX8_cloudsBySeed_2 2 rfl rfl ?_
  refine fr_istore (pc := 3) (lv' := [(4, .int a1), (2, .long (0 : Int64)), (0, .ref (g.2.2.2 + 0)), (1, .int a1)]) dX8_cloudsBySeed_3 (by decide) rfl ?_
  refine fr_iconst (pc := 5) (v := (0 : Int32)) dX8_cloudsBySeed_5 (by decide) ?_
  refine fr_istore (pc := 6) (lv' := [(5, .int (0 : Int32)), (4, .int a1), (2, .long (0 : Int64)), (0, .ref (g.2.2.2 + 0)), (1, .int a1)]) dX8_cloudsBySeed_6 (by decide) rfl ?_
  refine fr_loc (lv' := [(0, .ref (g.2.2.2 + 0)), (2, .long (0 : Int64)), (4, .int a1), (5, .int (0 : Int32))]) [3, 2, 1, 0] rfl ?_
  exact sX8_cloudsBySeed_L8 _  _ _ _ hf
theorem dX8_hasBit_0 : decode cX8_hasBit 0 = .ok (.lload_n 0, 1) := by decide +kernel
theorem dX8_hasBit_1 : decode cX8_hasBit 1 = .ok (.iload_n 2, 1) := by decide +kernel
theorem dX8_hasBit_2 : decode cX8_hasBit 2 = .ok (.lushr, 1) := by decide +kernel
theorem dX8_hasBit_3 : decode cX8_hasBit 3 = .ok (.lconst 1, 1) := by decide +kernel
theorem dX8_hasBit_4 : decode cX8_hasBit 4 = .ok (.land, 1) := by decide +kernel
theorem dX8_hasBit_5 : decode cX8_hasBit 5 = .ok (.lconst 0, 1) := by decide +kernel
theorem dX8_hasBit_6 : decode cX8_hasBit 6 = .ok (.lcmp, 1) := by decide +kernel
theorem dX8_hasBit_7 : decode cX8_hasBit 7 = .ok (.ifCond .eq 7, 3) := by decide +kernel
theorem dX8_hasBit_10 : decode cX8_hasBit 10 = .ok (.iconst 1, 1) := by decide +kernel
theorem dX8_hasBit_11 : decode cX8_hasBit 11 = .ok (.goto 4, 3) := by decide +kernel
theorem dX8_hasBit_14 : decode cX8_hasBit 14 = .ok (.iconst 0, 1) := by decide +kernel
theorem dX8_hasBit_15 : decode cX8_hasBit 15 = .ok (.ireturn, 1) := by decide +kernel
def fX8_hasBit (a0 : Int64) (a2 : Int32) : Option (Bool) :=
if (lg_cmp ((fd_lushr a0 a2) &&& (1 : Int64)) (0 : Int64)) = 0 then (
some (false))
else (
some (true))
set_option maxRecDepth 100000 in
set_option maxHeartbeats 4000000 in
theorem sX8_hasBit {g : fd_G} {a0 : Int64} {a2 : Int32} {h : fd_H} {r : Bool} (hf : fX8_hasBit a0 a2 = some r) : fd_S g mX8_hasBit 0 [.long a0, .int a2] fd_X0 h (some (.int (fd_b r))) fd_X0 h 0 0 := by
  refine fd_S.of (by decide +kernel) (Nat.le_of_ble_eq_true rfl) ?_
  unfold fX8_hasBit at hf
  refine fr_loc (lv' := [(0, .long a0), (2, .int a2)]) [0, 1] rfl ?_
  refine fr_lload_n (pc := 0) dX8_hasBit_0 0 rfl rfl ?_
  refine fr_iload_n (pc := 1) dX8_hasBit_1 1 rfl rfl ?_
  refine fr_lushr (pc := 2) dX8_hasBit_2 ?_
  refine fr_lconst (pc := 3) (v := (1 : Int64)) dX8_hasBit_3 (by decide) ?_
  refine fr_land (pc := 4) dX8_hasBit_4 ?_
  refine fr_lconst (pc := 5) (v := (0 : Int64)) dX8_hasBit_5 (by decide) ?_
  refine fr_lcmp (pc := 6) dX8_hasBit_6 ?_
  refine fr_if_eq (pc := 7) 14 dX8_hasBit_7 (by decide) (fun c1 => ?_) (fun c1 => ?_)
  · have hf := fd_t c1 hf
    refine fr_iconst (pc := 14) (v := (0 : Int32)) dX8_hasBit_14 (by decide) ?_
    exact fr_zretP (x := false) (pc := 15) dX8_hasBit_15 rfl hf
  · have hf := fd_f c1 hf
    refine fr_iconst (pc := 10) (v := (1 : Int32)) dX8_hasBit_10 (by decide) ?_
    refine fr_goto (pc := 11) 15 dX8_hasBit_11 (by decide) ?_
    exact fr_zretP (x := true) (pc := 15) dX8_hasBit_15 rfl hf
theorem dX8_bitsBelow_0 : decode cX8_bitsBelow 0 = .ok (.lconst 1, 1) := by decide +kernel
theorem dX8_bitsBelow_1 : decode cX8_bitsBelow 1 = .ok (.iload_n 0, 1) := by decide +kernel
theorem dX8_bitsBelow_2 : decode cX8_bitsBelow 2 = .ok (.lshl, 1) := by decide +kernel
theorem dX8_bitsBelow_3 : decode cX8_bitsBelow 3 = .ok (.lconst 1, 1) := by decide +kernel
theorem dX8_bitsBelow_4 : decode cX8_bitsBelow 4 = .ok (.lsub, 1) := by decide +kernel
theorem dX8_bitsBelow_5 : decode cX8_bitsBelow 5 = .ok (.lreturn, 1) := by decide +kernel
def fX8_bitsBelow (a0 : Int32) : Option (Int64) :=
some (((fd_lshl (1 : Int64) a0) - (1 : Int64)))
set_option maxRecDepth 100000 in
set_option maxHeartbeats 4000000 in
theorem sX8_bitsBelow {g : fd_G} {a0 : Int32} {h : fd_H} {r : Int64} (hf : fX8_bitsBelow a0 = some r) : fd_S g mX8_bitsBelow 0 [.int a0] fd_X0 h (some (.long r)) fd_X0 h 0 0 := by
  refine fd_S.of (by decide +kernel) (Nat.le_of_ble_eq_true rfl) ?_
  unfold fX8_bitsBelow at hf
  refine fr_loc (lv' := [(0, .int a0)]) [0] rfl ?_
  refine fr_lconst (pc := 0) (v := (1 : Int64)) dX8_bitsBelow_0 (by decide) ?_
  refine fr_iload_n (pc := 1) dX8_bitsBelow_1 0 rfl rfl ?_
  refine fr_lshl (pc := 2) dX8_bitsBelow_2 ?_
  refine fr_lconst (pc := 3) (v := (1 : Int64)) dX8_bitsBelow_3 (by decide) ?_
  refine fr_lsub (pc := 4) dX8_bitsBelow_4 ?_
  exact fr_lretP (x := ((fd_lshl (1 : Int64) a0) - (1 : Int64))) (pc := 5) dX8_bitsBelow_5 rfl hf
theorem dX8_bitsUpTo_0 : decode cX8_bitsUpTo 0 = .ok (.ldc2_w 337, 3) := by decide +kernel
theorem dX8_bitsUpTo_3 : decode cX8_bitsUpTo 3 = .ok (.iload_n 0, 1) := by decide +kernel
theorem dX8_bitsUpTo_4 : decode cX8_bitsUpTo 4 = .ok (.lshl, 1) := by decide +kernel
theorem dX8_bitsUpTo_5 : decode cX8_bitsUpTo 5 = .ok (.lconst 1, 1) := by decide +kernel
theorem dX8_bitsUpTo_6 : decode cX8_bitsUpTo 6 = .ok (.lsub, 1) := by decide +kernel
theorem dX8_bitsUpTo_7 : decode cX8_bitsUpTo 7 = .ok (.lreturn, 1) := by decide +kernel
def fX8_bitsUpTo (a0 : Int32) : Option (Int64) :=
some (((fd_lshl (2 : Int64) a0) - (1 : Int64)))
set_option maxRecDepth 100000 in
set_option maxHeartbeats 4000000 in
theorem sX8_bitsUpTo {g : fd_G} {a0 : Int32} {h : fd_H} {r : Int64} (hf : fX8_bitsUpTo a0 = some r) : fd_S g mX8_bitsUpTo 0 [.int a0] fd_X0 h (some (.long r)) fd_X0 h 0 0 := by
  refine fd_S.of (by decide +kernel) (Nat.le_of_ble_eq_true rfl) ?_
  unfold fX8_bitsUpTo at hf
  refine fr_loc (lv' := [(0, .int a0)]) [0] rfl ?_
  refine fr_ldc2 (pc := 0) (v := (2 : Int64)) dX8_bitsUpTo_0 kw_21 ?_
  refine fr_iload_n (pc := 3) dX8_bitsUpTo_3 0 rfl rfl ?_
  refine fr_lshl (pc := 4) dX8_bitsUpTo_4 ?_
  refine fr_lconst (pc := 5) (v := (1 : Int64)) dX8_bitsUpTo_5 (by decide) ?_
  refine fr_lsub (pc := 6) dX8_bitsUpTo_6 ?_
  exact fr_lretP (x := ((fd_lshl (2 : Int64) a0) - (1 : Int64))) (pc := 7) dX8_bitsUpTo_7 rfl hf
theorem dX8_power_0 : decode cX8_power 0 = .ok (.lconst 1, 1) := by decide +kernel
theorem dX8_power_1 : decode cX8_power 1 = .ok (.lstore_n 2, 1) := by decide +kernel
theorem dX8_power_2 : decode cX8_power 2 = .ok (.iconst 0, 1) := by decide +kernel
theorem dX8_power_3 : decode cX8_power 3 = .ok (.istore 4, 2) := by decide +kernel
theorem dX8_power_5 : decode cX8_power 5 = .ok (.iload 4, 2) := by decide +kernel
theorem dX8_power_7 : decode cX8_power 7 = .ok (.iload_n 1, 1) := by decide +kernel
theorem dX8_power_8 : decode cX8_power 8 = .ok (.if_icmp .ge 14, 3) := by decide +kernel
theorem dX8_power_11 : decode cX8_power 11 = .ok (.lload_n 2, 1) := by decide +kernel
theorem dX8_power_12 : decode cX8_power 12 = .ok (.iload_n 0, 1) := by decide +kernel
theorem dX8_power_13 : decode cX8_power 13 = .ok (.i2l, 1) := by decide +kernel
theorem dX8_power_14 : decode cX8_power 14 = .ok (.lmul, 1) := by decide +kernel
theorem dX8_power_15 : decode cX8_power 15 = .ok (.lstore_n 2, 1) := by decide +kernel
theorem dX8_power_16 : decode cX8_power 16 = .ok (.iinc 4 1, 3) := by decide +kernel
theorem dX8_power_19 : decode cX8_power 19 = .ok (.goto (-14), 3) := by decide +kernel
theorem dX8_power_22 : decode cX8_power 22 = .ok (.lload_n 2, 1) := by decide +kernel
theorem dX8_power_23 : decode cX8_power 23 = .ok (.lreturn, 1) := by decide +kernel
def fX8_power_L5 (a0 : Int32) (a1 : Int32) : Nat → Int64 → Int32 → Option (Int64)
  | 0 => fun _ _ => none
  | n + 1 => fun v2 v4 =>
if a1 ≤ v4 then (
some (v2))
else (
fd_lt ((v2 * ((a0).toInt64))) fun x2 =>
fX8_power_L5 a0 a1 n x2 (v4 + (1 : Int32)))
set_option maxRecDepth 100000 in
set_option maxHeartbeats 4000000 in
theorem sX8_power_L5 {g : fd_G} {a0 : Int32} {a1 : Int32} {h : fd_H} {r : Int64} : ∀ (n : Nat) (v2 : Int64) (v4 : Int32), fX8_power_L5 a0 a1 n v2 v4 = some r → fd_A g mX8_power fd_E (fd_rm 0 0 0) (fd_Q g (some (.long r)) fd_X0 h 0 0) 5 [(0, .int a0), (1, .int a1), (2, .long v2), (4, .int v4)] [] fd_X0 h 0 0 := by
  intro n
  induction n with
  | zero =>
    intro _ _ hf
    cases hf
  | succ n ih =>
    intro v2 v4 hf
    rw [fX8_power_L5] at hf
    refine fr_iload (pc := 5) dX8_power_5 3 rfl ?_
    refine fr_iload_n (pc := 7) dX8_power_7 1 rfl rfl ?_
    refine fr_icmp_ge (pc := 8) 22 dX8_power_8 (by decide) (fun c1 => ?_) (fun c1 => ?_)
    · have hf := fd_t c1 hf
      refine fr_lload_n (pc := 22) dX8_power_22 2 rfl rfl ?_
      exact fr_lretP (x := v2) (pc := 23) dX8_power_23 rfl hf
    · have hf := fd_f c1 hf
      refine fr_lload_n (pc := 11) dX8_power_11 2 rfl rfl ?_
      refine fr_iload_n (pc := 12) dX8_power_12 0 rfl rfl ?_
      refine fr_i2l (pc := 13) dX8_power_13 ?_
      refine fr_lmul (pc := 14) dX8_power_14 ?_
      obtain ⟨x2, ex2, hf⟩ := fd_lt_e hf
      refine fr_nml ex2 ?_
      refine fr_lstore_n (pc := 15) (lv' := [(2, .long x2), (0, .int a0), (1, .int a1), (4, .int v4)]) dX8_power_15 rfl (by decide) rfl ?_
      refine fr_iinc (pc := 16) (v := (v4 + (1 : Int32))) (lv' := [(4, .int (v4 + (1 : Int32))), (2, .long x2), (0, .int a0), (1, .int a1)]) dX8_power_16 3 rfl rfl (by decide) rfl ?_
      refine fr_goto (pc := 19) 5 dX8_power_19 (by decide) ?_
      refine fr_loc (lv' := [(0, .int a0), (1, .int a1), (2, .long x2), (4, .int (v4 + (1 : Int32)))]) [2, 3, 1, 0] rfl ?_
      exact ih _ _ hf
def fX8_power (a0 : Int32) (a1 : Int32) : Option (Int64) :=
fX8_power_L5 a0 a1 fd_fu (1 : Int64) (0 : Int32)
set_option maxRecDepth 100000 in
set_option maxHeartbeats 4000000 in
theorem sX8_power {g : fd_G} {a0 : Int32} {a1 : Int32} {h : fd_H} {r : Int64} (hf : fX8_power a0 a1 = some r) : fd_S g mX8_power 0 [.int a0, .int a1] fd_X0 h (some (.long r)) fd_X0 h 0 0 := by
  refine fd_S.of (by decide +kernel) (Nat.le_of_ble_eq_true rfl) ?_
  unfold fX8_power at hf
  refine fr_loc (lv' := [(0, .int a0), (1, .int a1)]) [0, 1] rfl ?_
  refine fr_lconst (pc := 0) (v := (1 : Int64)) dX8_power_0 (by decide) ?_
  refine fr_lstore_n (pc := 1) (lv' := [(2, .long (1 : Int64)), (0, .int a0), (1, .int a1)]) dX8_power_1 rfl (by decide) rfl ?_
  refine fr_iconst (pc := 2) (v := (0 : Int32)) dX8_power_2 (by decide) ?_
  refine fr_istore (pc := 3) (lv' := [(4, .int (0 : Int32)), (2, .long (1 : Int64)), (0, .int a0), (1, .int a1)]) dX8_power_3 (by decide) rfl ?_
  refine fr_loc (lv' := [(0, .int a0), (1, .int a1), (2, .long (1 : Int64)), (4, .int (0 : Int32))]) [2, 3, 1, 0] rfl ?_
  exact sX8_power_L5 _  _ _ hf
theorem dX8_lowestTerm_0 : decode cX8_lowestTerm 0 = .ok (.lload_n 0, 1) := by decide +kernel
theorem dX8_lowestTerm_1 : decode cX8_lowestTerm 1 = .ok (.lstore 5, 2) := by decide +kernel
theorem dX8_lowestTerm_3 : decode cX8_lowestTerm 3 = .ok (.lload_n 2, 1) := by decide +kernel
theorem dX8_lowestTerm_4 : decode cX8_lowestTerm 4 = .ok (.lstore 7, 2) := by decide +kernel
theorem dX8_lowestTerm_6 : decode cX8_lowestTerm 6 = .ok (.iconst 0, 1) := by decide +kernel
theorem dX8_lowestTerm_7 : decode cX8_lowestTerm 7 = .ok (.istore 9, 2) := by decide +kernel
theorem dX8_lowestTerm_9 : decode cX8_lowestTerm 9 = .ok (.iload 9, 2) := by decide +kernel
theorem dX8_lowestTerm_11 : decode cX8_lowestTerm 11 = .ok (.bipush 64, 2) := by decide +kernel
theorem dX8_lowestTerm_13 : decode cX8_lowestTerm 13 = .ok (.if_icmp .ge 43, 3) := by decide +kernel
theorem dX8_lowestTerm_16 : decode cX8_lowestTerm 16 = .ok (.lload 7, 2) := by decide +kernel
theorem dX8_lowestTerm_18 : decode cX8_lowestTerm 18 = .ok (.lconst 1, 1) := by decide +kernel
theorem dX8_lowestTerm_19 : decode cX8_lowestTerm 19 = .ok (.lcmp, 1) := by decide +kernel
theorem dX8_lowestTerm_20 : decode cX8_lowestTerm 20 = .ok (.ifCond .le 36, 3) := by decide +kernel
theorem dX8_lowestTerm_23 : decode cX8_lowestTerm 23 = .ok (.lload 5, 2) := by decide +kernel
theorem dX8_lowestTerm_25 : decode cX8_lowestTerm 25 = .ok (.ldc2_w 337, 3) := by decide +kernel
theorem dX8_lowestTerm_28 : decode cX8_lowestTerm 28 = .ok (.lrem, 1) := by decide +kernel
theorem dX8_lowestTerm_29 : decode cX8_lowestTerm 29 = .ok (.lconst 0, 1) := by decide +kernel
theorem dX8_lowestTerm_30 : decode cX8_lowestTerm 30 = .ok (.lcmp, 1) := by decide +kernel
theorem dX8_lowestTerm_31 : decode cX8_lowestTerm 31 = .ok (.ifCond .ne 25, 3) := by decide +kernel
theorem dX8_lowestTerm_34 : decode cX8_lowestTerm 34 = .ok (.lload 5, 2) := by decide +kernel
theorem dX8_lowestTerm_36 : decode cX8_lowestTerm 36 = .ok (.ldc2_w 337, 3) := by decide +kernel
theorem dX8_lowestTerm_39 : decode cX8_lowestTerm 39 = .ok (.ldiv, 1) := by decide +kernel
theorem dX8_lowestTerm_40 : decode cX8_lowestTerm 40 = .ok (.lstore 5, 2) := by decide +kernel
theorem dX8_lowestTerm_42 : decode cX8_lowestTerm 42 = .ok (.lload 7, 2) := by decide +kernel
theorem dX8_lowestTerm_44 : decode cX8_lowestTerm 44 = .ok (.ldc2_w 337, 3) := by decide +kernel
theorem dX8_lowestTerm_47 : decode cX8_lowestTerm 47 = .ok (.ldiv, 1) := by decide +kernel
theorem dX8_lowestTerm_48 : decode cX8_lowestTerm 48 = .ok (.lstore 7, 2) := by decide +kernel
theorem dX8_lowestTerm_50 : decode cX8_lowestTerm 50 = .ok (.iinc 9 1, 3) := by decide +kernel
theorem dX8_lowestTerm_53 : decode cX8_lowestTerm 53 = .ok (.goto (-44), 3) := by decide +kernel
theorem dX8_lowestTerm_56 : decode cX8_lowestTerm 56 = .ok (.iload 4, 2) := by decide +kernel
theorem dX8_lowestTerm_58 : decode cX8_lowestTerm 58 = .ok (.ifCond .ne 8, 3) := by decide +kernel
theorem dX8_lowestTerm_61 : decode cX8_lowestTerm 61 = .ok (.lload 5, 2) := by decide +kernel
theorem dX8_lowestTerm_63 : decode cX8_lowestTerm 63 = .ok (.goto 5, 3) := by decide +kernel
theorem dX8_lowestTerm_66 : decode cX8_lowestTerm 66 = .ok (.lload 7, 2) := by decide +kernel
theorem dX8_lowestTerm_68 : decode cX8_lowestTerm 68 = .ok (.lreturn, 1) := by decide +kernel
def fX8_lowestTerm_L56 (a0 : Int64) (a2 : Int64) (a4 : Int32) (v5 : Int64) (v7 : Int64) : Option (Int64) :=
if a4 = 0 then (
some (v5))
else (
some (v7))
set_option maxRecDepth 100000 in
set_option maxHeartbeats 4000000 in
theorem sX8_lowestTerm_L56 {g : fd_G} {a0 : Int64} {a2 : Int64} {a4 : Int32} {h : fd_H} {r : Int64} : ∀ (v5 : Int64) (v7 : Int64), fX8_lowestTerm_L56 a0 a2 a4 v5 v7 = some r → fd_A g mX8_lowestTerm fd_E (fd_rm 0 0 0) (fd_Q g (some (.long r)) fd_X0 h 0 0) 56 [(4, .int a4), (5, .long v5), (7, .long v7)] [] fd_X0 h 0 0 := by
  intro v5 v7 hf
  unfold fX8_lowestTerm_L56 at hf
  refine fr_iload (pc := 56) dX8_lowestTerm_56 0 rfl ?_
  refine fr_if_ne (pc := 58) 66 dX8_lowestTerm_58 (by decide) (fun c1 => ?_) (fun c1 => ?_)
  · have hf := fd_f c1 hf
    refine fr_lload (pc := 66) dX8_lowestTerm_66 2 rfl ?_
    exact fr_lretP (x := v7) (pc := 68) dX8_lowestTerm_68 rfl hf
  · have hf := fd_t c1 hf
    refine fr_lload (pc := 61) dX8_lowestTerm_61 1 rfl ?_
    refine fr_goto (pc := 63) 68 dX8_lowestTerm_63 (by decide) ?_
    exact fr_lretP (x := v5) (pc := 68) dX8_lowestTerm_68 rfl hf
def fX8_lowestTerm_L9 (a0 : Int64) (a2 : Int64) (a4 : Int32) : Nat → Int64 → Int64 → Int32 → Option (Int64)
  | 0 => fun _ _ _ => none
  | n + 1 => fun v5 v7 v9 =>
if (64 : Int32) ≤ v9 then (
fX8_lowestTerm_L56 a0 a2 a4 v5 v7)
else (
if (lg_cmp v7 (1 : Int64)) ≤ 0 then (
fX8_lowestTerm_L56 a0 a2 a4 v5 v7)
else (
if (lg_cmp (fd_lrem v5 (2 : Int64)) (0 : Int64)) = 0 then (
fd_lt ((v5 / (2 : Int64))) fun x4 =>
fd_lt ((v7 / (2 : Int64))) fun x5 =>
fX8_lowestTerm_L9 a0 a2 a4 n x4 x5 (v9 + (1 : Int32)))
else (
fX8_lowestTerm_L56 a0 a2 a4 v5 v7)))
set_option maxRecDepth 100000 in
set_option maxHeartbeats 4000000 in
theorem sX8_lowestTerm_L9 {g : fd_G} {a0 : Int64} {a2 : Int64} {a4 : Int32} {h : fd_H} {r : Int64} : ∀ (n : Nat) (v5 : Int64) (v7 : Int64) (v9 : Int32), fX8_lowestTerm_L9 a0 a2 a4 n v5 v7 v9 = some r → fd_A g mX8_lowestTerm fd_E (fd_rm 0 0 0) (fd_Q g (some (.long r)) fd_X0 h 0 0) 9 [(4, .int a4), (5, .long v5), (7, .long v7), (9, .int v9)] [] fd_X0 h 0 0 := by
  intro n
  induction n with
  | zero =>
    intro _ _ _ hf
    cases hf
  | succ n ih =>
    intro v5 v7 v9 hf
    rw [fX8_lowestTerm_L9] at hf
    refine fr_iload (pc := 9) dX8_lowestTerm_9 3 rfl ?_
    refine fr_bipush (pc := 11) (v := (64 : Int32)) dX8_lowestTerm_11 (by decide) ?_
    refine fr_icmp_ge (pc := 13) 56 dX8_lowestTerm_13 (by decide) (fun c1 => ?_) (fun c1 => ?_)
    · have hf := fd_t c1 hf
      refine fr_loc (lv' := [(4, .int a4), (5, .long v5), (7, .long v7)]) [0, 1, 2] rfl ?_
      exact sX8_lowestTerm_L56  _ _ hf
    · have hf := fd_f c1 hf
      refine fr_lload (pc := 16) dX8_lowestTerm_16 2 rfl ?_
      refine fr_lconst (pc := 18) (v := (1 : Int64)) dX8_lowestTerm_18 (by decide) ?_
      refine fr_lcmp (pc := 19) dX8_lowestTerm_19 ?_
      refine fr_if_le (pc := 20) 56 dX8_lowestTerm_20 (by decide) (fun c2 => ?_) (fun c2 => ?_)
      · have hf := fd_t c2 hf
        refine fr_loc (lv' := [(4, .int a4), (5, .long v5), (7, .long v7)]) [0, 1, 2] rfl ?_
        exact sX8_lowestTerm_L56  _ _ hf
      · have hf := fd_f c2 hf
        refine fr_lload (pc := 23) dX8_lowestTerm_23 1 rfl ?_
        refine fr_ldc2 (pc := 25) (v := (2 : Int64)) dX8_lowestTerm_25 kw_21 ?_
        refine fr_lrem (pc := 28) dX8_lowestTerm_28 (by decide) ?_
        refine fr_lconst (pc := 29) (v := (0 : Int64)) dX8_lowestTerm_29 (by decide) ?_
        refine fr_lcmp (pc := 30) dX8_lowestTerm_30 ?_
        refine fr_if_ne (pc := 31) 56 dX8_lowestTerm_31 (by decide) (fun c3 => ?_) (fun c3 => ?_)
        · have hf := fd_f c3 hf
          refine fr_loc (lv' := [(4, .int a4), (5, .long v5), (7, .long v7)]) [0, 1, 2] rfl ?_
          exact sX8_lowestTerm_L56  _ _ hf
        · have hf := fd_t c3 hf
          refine fr_lload (pc := 34) dX8_lowestTerm_34 1 rfl ?_
          refine fr_ldc2 (pc := 36) (v := (2 : Int64)) dX8_lowestTerm_36 kw_21 ?_
          refine fr_ldiv (pc := 39) dX8_lowestTerm_39 (by decide) ?_
          obtain ⟨x4, ex4, hf⟩ := fd_lt_e hf
          refine fr_nml ex4 ?_
          refine fr_lstore (pc := 40) (lv' := [(5, .long x4), (4, .int a4), (7, .long v7), (9, .int v9)]) dX8_lowestTerm_40 (by decide) rfl ?_
          refine fr_lload (pc := 42) dX8_lowestTerm_42 2 rfl ?_
          refine fr_ldc2 (pc := 44) (v := (2 : Int64)) dX8_lowestTerm_44 kw_21 ?_
          refine fr_ldiv (pc := 47) dX8_lowestTerm_47 (by decide) ?_
          obtain ⟨x5, ex5, hf⟩ := fd_lt_e hf
          refine fr_nml ex5 ?_
          refine fr_lstore (pc := 48) (lv' := [(7, .long x5), (5, .long x4), (4, .int a4), (9, .int v9)]) dX8_lowestTerm_48 (by decide) rfl ?_
          refine fr_iinc (pc := 50) (v := (v9 + (1 : Int32))) (lv' := [(9, .int (v9 + (1 : Int32))), (7, .long x5), (5, .long x4), (4, .int a4)]) dX8_lowestTerm_50 3 rfl rfl (by decide) rfl ?_
          refine fr_goto (pc := 53) 9 dX8_lowestTerm_53 (by decide) ?_
          refine fr_loc (lv' := [(4, .int a4), (5, .long x4), (7, .long x5), (9, .int (v9 + (1 : Int32)))]) [3, 2, 1, 0] rfl ?_
          exact ih _ _ _ hf
def fX8_lowestTerm (a0 : Int64) (a2 : Int64) (a4 : Int32) : Option (Int64) :=
fX8_lowestTerm_L9 a0 a2 a4 fd_fu a0 a2 (0 : Int32)
set_option maxRecDepth 100000 in
set_option maxHeartbeats 4000000 in
theorem sX8_lowestTerm {g : fd_G} {a0 : Int64} {a2 : Int64} {a4 : Int32} {h : fd_H} {r : Int64} (hf : fX8_lowestTerm a0 a2 a4 = some r) : fd_S g mX8_lowestTerm 0 [.long a0, .long a2, .int a4] fd_X0 h (some (.long r)) fd_X0 h 0 0 := by
  refine fd_S.of (by decide +kernel) (Nat.le_of_ble_eq_true rfl) ?_
  unfold fX8_lowestTerm at hf
  refine fr_loc (lv' := [(0, .long a0), (2, .long a2), (4, .int a4)]) [0, 1, 2] rfl ?_
  refine fr_lload_n (pc := 0) dX8_lowestTerm_0 0 rfl rfl ?_
  refine fr_lstore (pc := 1) (lv' := [(5, .long a0), (0, .long a0), (2, .long a2), (4, .int a4)]) dX8_lowestTerm_1 (by decide) rfl ?_
  refine fr_lload_n (pc := 3) dX8_lowestTerm_3 2 rfl rfl ?_
  refine fr_lstore (pc := 4) (lv' := [(7, .long a2), (5, .long a0), (0, .long a0), (2, .long a2), (4, .int a4)]) dX8_lowestTerm_4 (by decide) rfl ?_
  refine fr_iconst (pc := 6) (v := (0 : Int32)) dX8_lowestTerm_6 (by decide) ?_
  refine fr_istore (pc := 7) (lv' := [(9, .int (0 : Int32)), (7, .long a2), (5, .long a0), (0, .long a0), (2, .long a2), (4, .int a4)]) dX8_lowestTerm_7 (by decide) rfl ?_
  refine fr_loc (lv' := [(4, .int a4), (5, .long a0), (7, .long a2), (9, .int (0 : Int32))]) [5, 2, 1, 0] rfl ?_
  exact sX8_lowestTerm_L9 _  _ _ _ hf
theorem dX8_find_0 : decode cX8_find 0 = .ok (.aload_n 0, 1) := by decide +kernel
theorem dX8_find_1 : decode cX8_find 1 = .ok (.iload_n 1, 1) := by decide +kernel
theorem dX8_find_2 : decode cX8_find 2 = .ok (.putfield 58, 3) := by decide +kernel
theorem dX8_find_5 : decode cX8_find 5 = .ok (.bipush (-10), 2) := by decide +kernel
theorem dX8_find_7 : decode cX8_find 7 = .ok (.iload_n 1, 1) := by decide +kernel
theorem dX8_find_8 : decode cX8_find 8 = .ok (.isub, 1) := by decide +kernel
theorem dX8_find_9 : decode cX8_find 9 = .ok (.ireturn, 1) := by decide +kernel
def fX8_find (a1 : Int32) (h : fd_H) : Option (Int32 × fd_H) :=
fd_lt (fd_ui h 0 7 a1) fun h1 =>
some (((-10 : Int32) - a1), h1)
set_option maxRecDepth 100000 in
set_option maxHeartbeats 4000000 in
theorem sX8_find {g : fd_G} {hm : fd_H} {a1 : Int32} {r : Int32 × fd_H} {h : fd_H} (hf : fX8_find a1 h = some r) : fd_S g mX8_find 0 [.ref (g.2.2.2 + 0), .int a1] fd_X0 (fd_mx h hm) (some (.int r.1)) fd_X0 (fd_mx r.2 hm) 0 0 := by
  refine fd_S.of (by decide +kernel) (Nat.le_of_ble_eq_true rfl) ?_
  unfold fX8_find at hf
  refine fr_loc (lv' := [(0, .ref (g.2.2.2 + 0)), (1, .int a1)]) [0, 1] rfl ?_
  refine fr_aload_n (pc := 0) dX8_find_0 0 rfl rfl ?_
  refine fr_iload_n (pc := 1) dX8_find_1 1 rfl rfl ?_
  obtain ⟨h1, eh1, hf⟩ := fd_lt_e hf
  refine vx_putI (pc := 2) dX8_find_2 fl_X8_58 ft_X8_7 (by decide) (by decide) rfl rfl eh1 ?_
  refine fr_bipush (pc := 5) (v := (-10 : Int32)) dX8_find_5 (by decide) ?_
  refine fr_iload_n (pc := 7) dX8_find_7 1 rfl rfl ?_
  refine fr_isub (pc := 8) dX8_find_8 ?_
  exact vx_iretW (x := ((-10 : Int32) - a1)) (pc := 9) dX8_find_9 rfl hf
theorem dX8_mix_0 : decode cX8_mix 0 = .ok (.ldc2_w 347, 3) := by decide +kernel
theorem dX8_mix_3 : decode cX8_mix 3 = .ok (.lload_n 0, 1) := by decide +kernel
theorem dX8_mix_4 : decode cX8_mix 4 = .ok (.lmul, 1) := by decide +kernel
theorem dX8_mix_5 : decode cX8_mix 5 = .ok (.lload_n 2, 1) := by decide +kernel
theorem dX8_mix_6 : decode cX8_mix 6 = .ok (.ladd, 1) := by decide +kernel
theorem dX8_mix_7 : decode cX8_mix 7 = .ok (.lreturn, 1) := by decide +kernel
def fX8_mix (a0 : Int64) (a2 : Int64) : Option (Int64) :=
some ((((31 : Int64) * a0) + a2))
set_option maxRecDepth 100000 in
set_option maxHeartbeats 4000000 in
theorem sX8_mix {g : fd_G} {a0 : Int64} {a2 : Int64} {h : fd_H} {r : Int64} (hf : fX8_mix a0 a2 = some r) : fd_S g mX8_mix 0 [.long a0, .long a2] fd_X0 h (some (.long r)) fd_X0 h 0 0 := by
  refine fd_S.of (by decide +kernel) (Nat.le_of_ble_eq_true rfl) ?_
  unfold fX8_mix at hf
  refine fr_loc (lv' := [(0, .long a0), (2, .long a2)]) [0, 1] rfl ?_
  refine fr_ldc2 (pc := 0) (v := (31 : Int64)) dX8_mix_0 kw_22 ?_
  refine fr_lload_n (pc := 3) dX8_mix_3 0 rfl rfl ?_
  refine fr_lmul (pc := 4) dX8_mix_4 ?_
  refine fr_lload_n (pc := 5) dX8_mix_5 1 rfl rfl ?_
  refine fr_ladd (pc := 6) dX8_mix_6 ?_
  exact fr_lretP (x := (((31 : Int64) * a0) + a2)) (pc := 7) dX8_mix_7 rfl hf
theorem dX9_in_0 : decode cX9_in 0 = .ok (.iload_n 0, 1) := by decide +kernel
theorem dX9_in_1 : decode cX9_in 1 = .ok (.iload_n 1, 1) := by decide +kernel
theorem dX9_in_2 : decode cX9_in 2 = .ok (.if_icmp .lt 12, 3) := by decide +kernel
theorem dX9_in_5 : decode cX9_in 5 = .ok (.iload_n 0, 1) := by decide +kernel
theorem dX9_in_6 : decode cX9_in 6 = .ok (.iload_n 2, 1) := by decide +kernel
theorem dX9_in_7 : decode cX9_in 7 = .ok (.if_icmp .gt 7, 3) := by decide +kernel
theorem dX9_in_10 : decode cX9_in 10 = .ok (.iconst 1, 1) := by decide +kernel
theorem dX9_in_11 : decode cX9_in 11 = .ok (.goto 4, 3) := by decide +kernel
theorem dX9_in_14 : decode cX9_in 14 = .ok (.iconst 0, 1) := by decide +kernel
theorem dX9_in_15 : decode cX9_in 15 = .ok (.ireturn, 1) := by decide +kernel
def fX9_in (a0 : Int32) (a1 : Int32) (a2 : Int32) : Option (Bool) :=
if a0 < a1 then (
some (false))
else (
if a2 < a0 then (
some (false))
else (
some (true)))
set_option maxRecDepth 100000 in
set_option maxHeartbeats 4000000 in
theorem sX9_in {g : fd_G} {a0 : Int32} {a1 : Int32} {a2 : Int32} {h : fd_H} {r : Bool} (hf : fX9_in a0 a1 a2 = some r) : fd_S g mX9_in 0 [.int a0, .int a1, .int a2] fd_X0 h (some (.int (fd_b r))) fd_X0 h 0 0 := by
  refine fd_S.of (by decide +kernel) (Nat.le_of_ble_eq_true rfl) ?_
  unfold fX9_in at hf
  refine fr_loc (lv' := [(0, .int a0), (1, .int a1), (2, .int a2)]) [0, 1, 2] rfl ?_
  refine fr_iload_n (pc := 0) dX9_in_0 0 rfl rfl ?_
  refine fr_iload_n (pc := 1) dX9_in_1 1 rfl rfl ?_
  refine fr_icmp_lt (pc := 2) 14 dX9_in_2 (by decide) (fun c1 => ?_) (fun c1 => ?_)
  · have hf := fd_t c1 hf
    refine fr_iconst (pc := 14) (v := (0 : Int32)) dX9_in_14 (by decide) ?_
    exact fr_zretP (x := false) (pc := 15) dX9_in_15 rfl hf
  · have hf := fd_f c1 hf
    refine fr_iload_n (pc := 5) dX9_in_5 0 rfl rfl ?_
    refine fr_iload_n (pc := 6) dX9_in_6 2 rfl rfl ?_
    refine fr_icmp_gt (pc := 7) 14 dX9_in_7 (by decide) (fun c2 => ?_) (fun c2 => ?_)
    · have hf := fd_t c2 hf
      refine fr_iconst (pc := 14) (v := (0 : Int32)) dX9_in_14 (by decide) ?_
      exact fr_zretP (x := false) (pc := 15) dX9_in_15 rfl hf
    · have hf := fd_f c2 hf
      refine fr_iconst (pc := 10) (v := (1 : Int32)) dX9_in_10 (by decide) ?_
      refine fr_goto (pc := 11) 15 dX9_in_11 (by decide) ?_
      exact fr_zretP (x := true) (pc := 15) dX9_in_15 rfl hf
theorem dX9_isIn_0 : decode cX9_isIn 0 = .ok (.iload_n 0, 1) := by decide +kernel
theorem dX9_isIn_1 : decode cX9_isIn 1 = .ok (.iload_n 1, 1) := by decide +kernel
theorem dX9_isIn_2 : decode cX9_isIn 2 = .ok (.ishr, 1) := by decide +kernel
theorem dX9_isIn_3 : decode cX9_isIn 3 = .ok (.iconst 1, 1) := by decide +kernel
theorem dX9_isIn_4 : decode cX9_isIn 4 = .ok (.iand, 1) := by decide +kernel
theorem dX9_isIn_5 : decode cX9_isIn 5 = .ok (.iconst 1, 1) := by decide +kernel
theorem dX9_isIn_6 : decode cX9_isIn 6 = .ok (.if_icmp .ne 7, 3) := by decide +kernel
theorem dX9_isIn_9 : decode cX9_isIn 9 = .ok (.iconst 1, 1) := by decide +kernel
theorem dX9_isIn_10 : decode cX9_isIn 10 = .ok (.goto 4, 3) := by decide +kernel
theorem dX9_isIn_13 : decode cX9_isIn 13 = .ok (.iconst 0, 1) := by decide +kernel
theorem dX9_isIn_14 : decode cX9_isIn 14 = .ok (.ireturn, 1) := by decide +kernel
def fX9_isIn (a0 : Int32) (a1 : Int32) : Option (Bool) :=
if ((a0 >>> (a1 &&& 31)) &&& (1 : Int32)) = (1 : Int32) then (
some (true))
else (
some (false))
set_option maxRecDepth 100000 in
set_option maxHeartbeats 4000000 in
theorem sX9_isIn {g : fd_G} {a0 : Int32} {a1 : Int32} {h : fd_H} {r : Bool} (hf : fX9_isIn a0 a1 = some r) : fd_S g mX9_isIn 0 [.int a0, .int a1] fd_X0 h (some (.int (fd_b r))) fd_X0 h 0 0 := by
  refine fd_S.of (by decide +kernel) (Nat.le_of_ble_eq_true rfl) ?_
  unfold fX9_isIn at hf
  refine fr_loc (lv' := [(0, .int a0), (1, .int a1)]) [0, 1] rfl ?_
  refine fr_iload_n (pc := 0) dX9_isIn_0 0 rfl rfl ?_
  refine fr_iload_n (pc := 1) dX9_isIn_1 1 rfl rfl ?_
  refine fr_ishr (pc := 2) dX9_isIn_2 ?_
  refine fr_iconst (pc := 3) (v := (1 : Int32)) dX9_isIn_3 (by decide) ?_
  refine fr_iand (pc := 4) dX9_isIn_4 ?_
  refine fr_iconst (pc := 5) (v := (1 : Int32)) dX9_isIn_5 (by decide) ?_
  refine fr_icmp_ne (pc := 6) 13 dX9_isIn_6 (by decide) (fun c1 => ?_) (fun c1 => ?_)
  · have hf := fd_f c1 hf
    refine fr_iconst (pc := 13) (v := (0 : Int32)) dX9_isIn_13 (by decide) ?_
    exact fr_zretP (x := false) (pc := 14) dX9_isIn_14 rfl hf
  · have hf := fd_t c1 hf
    refine fr_iconst (pc := 9) (v := (1 : Int32)) dX9_isIn_9 (by decide) ?_
    refine fr_goto (pc := 10) 14 dX9_isIn_10 (by decide) ?_
    exact fr_zretP (x := true) (pc := 14) dX9_isIn_14 rfl hf
theorem dX9_no_0 : decode cX9_no 0 = .ok (.ldc2_w 87, 3) := by decide +kernel
theorem dX9_no_3 : decode cX9_no 3 = .ok (.iload_n 0, 1) := by decide +kernel
theorem dX9_no_4 : decode cX9_no 4 = .ok (.i2l, 1) := by decide +kernel
theorem dX9_no_5 : decode cX9_no 5 = .ok (.lsub, 1) := by decide +kernel
theorem dX9_no_6 : decode cX9_no 6 = .ok (.lreturn, 1) := by decide +kernel
def fX9_no (a0 : Int32) : Option (Int64) :=
some (((-9223372036854775808 : Int64) - ((a0).toInt64)))
set_option maxRecDepth 100000 in
set_option maxHeartbeats 4000000 in
theorem sX9_no {g : fd_G} {a0 : Int32} {h : fd_H} {r : Int64} (hf : fX9_no a0 = some r) : fd_S g mX9_no 0 [.int a0] fd_X0 h (some (.long r)) fd_X0 h 0 0 := by
  refine fd_S.of (by decide +kernel) (Nat.le_of_ble_eq_true rfl) ?_
  unfold fX9_no at hf
  refine fr_loc (lv' := [(0, .int a0)]) [0] rfl ?_
  refine fr_ldc2 (pc := 0) (v := (-9223372036854775808 : Int64)) dX9_no_0 kw_23 ?_
  refine fr_iload_n (pc := 3) dX9_no_3 0 rfl rfl ?_
  refine fr_i2l (pc := 4) dX9_no_4 ?_
  refine fr_lsub (pc := 5) dX9_no_5 ?_
  exact fr_lretP (x := ((-9223372036854775808 : Int64) - ((a0).toInt64))) (pc := 6) dX9_no_6 rfl hf
theorem dX9_lowest_0 : decode cX9_lowest 0 = .ok (.lload_n 0, 1) := by decide +kernel
theorem dX9_lowest_1 : decode cX9_lowest 1 = .ok (.lstore 5, 2) := by decide +kernel
theorem dX9_lowest_3 : decode cX9_lowest 3 = .ok (.lload_n 2, 1) := by decide +kernel
theorem dX9_lowest_4 : decode cX9_lowest 4 = .ok (.lstore 7, 2) := by decide +kernel
theorem dX9_lowest_6 : decode cX9_lowest 6 = .ok (.lload 7, 2) := by decide +kernel
theorem dX9_lowest_8 : decode cX9_lowest 8 = .ok (.lconst 0, 1) := by decide +kernel
theorem dX9_lowest_9 : decode cX9_lowest 9 = .ok (.lcmp, 1) := by decide +kernel
theorem dX9_lowest_10 : decode cX9_lowest 10 = .ok (.ifCond .eq 21, 3) := by decide +kernel
theorem dX9_lowest_13 : decode cX9_lowest 13 = .ok (.lload 5, 2) := by decide +kernel
theorem dX9_lowest_15 : decode cX9_lowest 15 = .ok (.lload 7, 2) := by decide +kernel
theorem dX9_lowest_17 : decode cX9_lowest 17 = .ok (.lrem, 1) := by decide +kernel
theorem dX9_lowest_18 : decode cX9_lowest 18 = .ok (.lstore 9, 2) := by decide +kernel
theorem dX9_lowest_20 : decode cX9_lowest 20 = .ok (.lload 7, 2) := by decide +kernel
theorem dX9_lowest_22 : decode cX9_lowest 22 = .ok (.lstore 5, 2) := by decide +kernel
theorem dX9_lowest_24 : decode cX9_lowest 24 = .ok (.lload 9, 2) := by decide +kernel
theorem dX9_lowest_26 : decode cX9_lowest 26 = .ok (.lstore 7, 2) := by decide +kernel
theorem dX9_lowest_28 : decode cX9_lowest 28 = .ok (.goto (-22), 3) := by decide +kernel
theorem dX9_lowest_31 : decode cX9_lowest 31 = .ok (.iload 4, 2) := by decide +kernel
theorem dX9_lowest_33 : decode cX9_lowest 33 = .ok (.ifCond .ne 10, 3) := by decide +kernel
theorem dX9_lowest_36 : decode cX9_lowest 36 = .ok (.lload_n 0, 1) := by decide +kernel
theorem dX9_lowest_37 : decode cX9_lowest 37 = .ok (.lload 5, 2) := by decide +kernel
theorem dX9_lowest_39 : decode cX9_lowest 39 = .ok (.ldiv, 1) := by decide +kernel
theorem dX9_lowest_40 : decode cX9_lowest 40 = .ok (.goto 7, 3) := by decide +kernel
theorem dX9_lowest_43 : decode cX9_lowest 43 = .ok (.lload_n 2, 1) := by decide +kernel
theorem dX9_lowest_44 : decode cX9_lowest 44 = .ok (.lload 5, 2) := by decide +kernel
theorem dX9_lowest_46 : decode cX9_lowest 46 = .ok (.ldiv, 1) := by decide +kernel
theorem dX9_lowest_47 : decode cX9_lowest 47 = .ok (.lreturn, 1) := by decide +kernel
def fX9_lowest_L6 (a0 : Int64) (a2 : Int64) (a4 : Int32) : Nat → Int64 → Int64 → Option (Int64)
  | 0 => fun _ _ => none
  | n + 1 => fun v5 v7 =>
if (lg_cmp v7 (0 : Int64)) = 0 then (
if a4 = 0 then (
fd_g (decide (¬ v5 = 0)) (
some ((a0 / v5))))
else (
fd_g (decide (¬ v5 = 0)) (
some ((a2 / v5)))))
else (
fd_g (decide (¬ v7 = 0)) (
fd_lt ((fd_lrem v5 v7)) fun x6 =>
fX9_lowest_L6 a0 a2 a4 n v7 x6))
set_option maxRecDepth 100000 in
set_option maxHeartbeats 4000000 in
theorem sX9_lowest_L6 {g : fd_G} {a0 : Int64} {a2 : Int64} {a4 : Int32} {h : fd_H} {r : Int64} : ∀ (n : Nat) (v5 : Int64) (v7 : Int64), fX9_lowest_L6 a0 a2 a4 n v5 v7 = some r → fd_A g mX9_lowest fd_E (fd_rm 0 0 0) (fd_Q g (some (.long r)) fd_X0 h 0 0) 6 [(0, .long a0), (2, .long a2), (4, .int a4), (5, .long v5), (7, .long v7)] [] fd_X0 h 0 0 := by
  intro n
  induction n with
  | zero =>
    intro _ _ hf
    cases hf
  | succ n ih =>
    intro v5 v7 hf
    rw [fX9_lowest_L6] at hf
    refine fr_lload (pc := 6) dX9_lowest_6 4 rfl ?_
    refine fr_lconst (pc := 8) (v := (0 : Int64)) dX9_lowest_8 (by decide) ?_
    refine fr_lcmp (pc := 9) dX9_lowest_9 ?_
    refine fr_if_eq (pc := 10) 31 dX9_lowest_10 (by decide) (fun c1 => ?_) (fun c1 => ?_)
    · have hf := fd_t c1 hf
      refine fr_iload (pc := 31) dX9_lowest_31 2 rfl ?_
      refine fr_if_ne (pc := 33) 43 dX9_lowest_33 (by decide) (fun c2 => ?_) (fun c2 => ?_)
      · have hf := fd_f c2 hf
        refine fr_lload_n (pc := 43) dX9_lowest_43 1 rfl rfl ?_
        refine fr_lload (pc := 44) dX9_lowest_44 3 rfl ?_
        obtain ⟨g3, hf⟩ := fd_g_e hf
        refine fr_ldiv (pc := 46) dX9_lowest_46 (of_decide_eq_true g3) ?_
        exact fr_lretP (x := (a2 / v5)) (pc := 47) dX9_lowest_47 rfl hf
      · have hf := fd_t c2 hf
        refine fr_lload_n (pc := 36) dX9_lowest_36 0 rfl rfl ?_
        refine fr_lload (pc := 37) dX9_lowest_37 3 rfl ?_
        obtain ⟨g4, hf⟩ := fd_g_e hf
        refine fr_ldiv (pc := 39) dX9_lowest_39 (of_decide_eq_true g4) ?_
        refine fr_goto (pc := 40) 47 dX9_lowest_40 (by decide) ?_
        exact fr_lretP (x := (a0 / v5)) (pc := 47) dX9_lowest_47 rfl hf
    · have hf := fd_f c1 hf
      refine fr_lload (pc := 13) dX9_lowest_13 3 rfl ?_
      refine fr_lload (pc := 15) dX9_lowest_15 4 rfl ?_
      obtain ⟨g5, hf⟩ := fd_g_e hf
      refine fr_lrem (pc := 17) dX9_lowest_17 (of_decide_eq_true g5) ?_
      obtain ⟨x6, ex6, hf⟩ := fd_lt_e hf
      refine fr_nml ex6 ?_
      refine fr_lstore (pc := 18) (lv' := [(9, .long x6), (0, .long a0), (2, .long a2), (4, .int a4), (5, .long v5), (7, .long v7)]) dX9_lowest_18 (by decide) rfl ?_
      refine fr_lload (pc := 20) dX9_lowest_20 5 rfl ?_
      refine fr_lstore (pc := 22) (lv' := [(5, .long v7), (9, .long x6), (0, .long a0), (2, .long a2), (4, .int a4), (7, .long v7)]) dX9_lowest_22 (by decide) rfl ?_
      refine fr_lload (pc := 24) dX9_lowest_24 1 rfl ?_
      refine fr_lstore (pc := 26) (lv' := [(7, .long x6), (5, .long v7), (9, .long x6), (0, .long a0), (2, .long a2), (4, .int a4)]) dX9_lowest_26 (by decide) rfl ?_
      refine fr_goto (pc := 28) 6 dX9_lowest_28 (by decide) ?_
      refine fr_loc (lv' := [(0, .long a0), (2, .long a2), (4, .int a4), (5, .long v7), (7, .long x6)]) [3, 4, 5, 1, 0] rfl ?_
      exact ih _ _ hf
def fX9_lowest (a0 : Int64) (a2 : Int64) (a4 : Int32) : Option (Int64) :=
fX9_lowest_L6 a0 a2 a4 fd_fu a0 a2
set_option maxRecDepth 100000 in
set_option maxHeartbeats 4000000 in
theorem sX9_lowest {g : fd_G} {a0 : Int64} {a2 : Int64} {a4 : Int32} {h : fd_H} {r : Int64} (hf : fX9_lowest a0 a2 a4 = some r) : fd_S g mX9_lowest 0 [.long a0, .long a2, .int a4] fd_X0 h (some (.long r)) fd_X0 h 0 0 := by
  refine fd_S.of (by decide +kernel) (Nat.le_of_ble_eq_true rfl) ?_
  unfold fX9_lowest at hf
  refine fr_loc (lv' := [(0, .long a0), (2, .long a2), (4, .int a4)]) [0, 1, 2] rfl ?_
  refine fr_lload_n (pc := 0) dX9_lowest_0 0 rfl rfl ?_
  refine fr_lstore (pc := 1) (lv' := [(5, .long a0), (0, .long a0), (2, .long a2), (4, .int a4)]) dX9_lowest_1 (by decide) rfl ?_
  refine fr_lload_n (pc := 3) dX9_lowest_3 2 rfl rfl ?_
  refine fr_lstore (pc := 4) (lv' := [(7, .long a2), (5, .long a0), (0, .long a0), (2, .long a2), (4, .int a4)]) dX9_lowest_4 (by decide) rfl ?_
  refine fr_loc (lv' := [(0, .long a0), (2, .long a2), (4, .int a4), (5, .long a0), (7, .long a2)]) [2, 3, 4, 1, 0] rfl ?_
  exact sX9_lowest_L6 _  _ _ hf
theorem dX9_byteAt_0 : decode cX9_byteAt 0 = .ok (.iload_n 2, 1) := by decide +kernel
theorem dX9_byteAt_1 : decode cX9_byteAt 1 = .ok (.aload_n 0, 1) := by decide +kernel
theorem dX9_byteAt_2 : decode cX9_byteAt 2 = .ok (.getfield 7, 3) := by decide +kernel
theorem dX9_byteAt_5 : decode cX9_byteAt 5 = .ok (.iload_n 1, 1) := by decide +kernel
theorem dX9_byteAt_6 : decode cX9_byteAt 6 = .ok (.iaload, 1) := by decide +kernel
theorem dX9_byteAt_7 : decode cX9_byteAt 7 = .ok (.if_icmp .ge 17, 3) := by decide +kernel
theorem dX9_byteAt_10 : decode cX9_byteAt 10 = .ok (.aload_n 0, 1) := by decide +kernel
theorem dX9_byteAt_11 : decode cX9_byteAt 11 = .ok (.getfield 13, 3) := by decide +kernel
theorem dX9_byteAt_14 : decode cX9_byteAt 14 = .ok (.bipush 71, 2) := by decide +kernel
theorem dX9_byteAt_16 : decode cX9_byteAt 16 = .ok (.iload_n 1, 1) := by decide +kernel
theorem dX9_byteAt_17 : decode cX9_byteAt 17 = .ok (.imul, 1) := by decide +kernel
theorem dX9_byteAt_18 : decode cX9_byteAt 18 = .ok (.iload_n 2, 1) := by decide +kernel
theorem dX9_byteAt_19 : decode cX9_byteAt 19 = .ok (.iadd, 1) := by decide +kernel
theorem dX9_byteAt_20 : decode cX9_byteAt 20 = .ok (.iaload, 1) := by decide +kernel
theorem dX9_byteAt_21 : decode cX9_byteAt 21 = .ok (.goto 4, 3) := by decide +kernel
theorem dX9_byteAt_24 : decode cX9_byteAt 24 = .ok (.iconst (-1), 1) := by decide +kernel
theorem dX9_byteAt_25 : decode cX9_byteAt 25 = .ok (.ireturn, 1) := by decide +kernel
def fX9_byteAt (a1 : Int32) (a2 : Int32) (h : fd_H) : Option (Int32) :=
fd_g (fd_in a1 3) (
if (h.1 74 a1.toNatClampNeg) ≤ a2 then (
some ((-1 : Int32)))
else (
fd_g (fd_in (((71 : Int32) * a1) + a2) 213) (
some ((h.1 75 (((71 : Int32) * a1) + a2).toNatClampNeg)))))
set_option maxRecDepth 100000 in
set_option maxHeartbeats 4000000 in
theorem sX9_byteAt {g : fd_G} {hm : fd_H} {a1 : Int32} {a2 : Int32} {h : fd_H} {r : Int32} (hf : fX9_byteAt a1 a2 h = some r) : fd_S g mX9_byteAt 0 [.ref (g.2.2.2 + 73), .int a1, .int a2] fd_X0 (fd_mx hm h) (some (.int r)) fd_X0 (fd_mx hm h) 0 0 := by
  refine fd_S.of (by decide +kernel) (Nat.le_of_ble_eq_true rfl) ?_
  unfold fX9_byteAt at hf
  refine fr_loc (lv' := [(0, .ref (g.2.2.2 + 73)), (1, .int a1), (2, .int a2)]) [0, 1, 2] rfl ?_
  refine fr_iload_n (pc := 0) dX9_byteAt_0 2 rfl rfl ?_
  refine fr_aload_n (pc := 1) dX9_byteAt_1 0 rfl rfl ?_
  refine fr_getR (pc := 2) dX9_byteAt_2 fl_X9_7 (by decide) rfl rfl ?_
  refine fr_iload_n (pc := 5) dX9_byteAt_5 1 rfl rfl ?_
  obtain ⟨g1, hf⟩ := fd_g_e hf
  refine vm_iald (pc := 6) dX9_byteAt_6 (by decide) (by decide) rfl g1 ?_
  refine fr_icmp_ge (pc := 7) 24 dX9_byteAt_7 (by decide) (fun c2 => ?_) (fun c2 => ?_)
  · have hf := fd_t c2 hf
    refine fr_iconst (pc := 24) (v := (-1 : Int32)) dX9_byteAt_24 (by decide) ?_
    exact fr_iretP (x := (-1 : Int32)) (pc := 25) dX9_byteAt_25 rfl hf
  · have hf := fd_f c2 hf
    refine fr_aload_n (pc := 10) dX9_byteAt_10 0 rfl rfl ?_
    refine fr_getR (pc := 11) dX9_byteAt_11 fl_X9_13 (by decide) rfl rfl ?_
    refine fr_bipush (pc := 14) (v := (71 : Int32)) dX9_byteAt_14 (by decide) ?_
    refine fr_iload_n (pc := 16) dX9_byteAt_16 1 rfl rfl ?_
    refine fr_imul (pc := 17) dX9_byteAt_17 ?_
    refine fr_iload_n (pc := 18) dX9_byteAt_18 2 rfl rfl ?_
    refine fr_iadd (pc := 19) dX9_byteAt_19 ?_
    obtain ⟨g3, hf⟩ := fd_g_e hf
    refine vm_iald (pc := 20) dX9_byteAt_20 (by decide) (by decide) rfl g3 ?_
    refine fr_goto (pc := 21) 25 dX9_byteAt_21 (by decide) ?_
    exact fr_iretP (x := (h.1 75 (((71 : Int32) * a1) + a2).toNatClampNeg)) (pc := 25) dX9_byteAt_25 rfl hf
theorem dX9_debtOf_0 : decode cX9_debtOf 0 = .ok (.iload_n 2, 1) := by decide +kernel
theorem dX9_debtOf_1 : decode cX9_debtOf 1 = .ok (.ifCond .ne 12, 3) := by decide +kernel
theorem dX9_debtOf_4 : decode cX9_debtOf 4 = .ok (.aload_n 0, 1) := by decide +kernel
theorem dX9_debtOf_5 : decode cX9_debtOf 5 = .ok (.getfield 25, 3) := by decide +kernel
theorem dX9_debtOf_8 : decode cX9_debtOf 8 = .ok (.iload_n 1, 1) := by decide +kernel
theorem dX9_debtOf_9 : decode cX9_debtOf 9 = .ok (.iaload, 1) := by decide +kernel
theorem dX9_debtOf_10 : decode cX9_debtOf 10 = .ok (.goto 51, 3) := by decide +kernel
theorem dX9_debtOf_13 : decode cX9_debtOf 13 = .ok (.iload_n 2, 1) := by decide +kernel
theorem dX9_debtOf_14 : decode cX9_debtOf 14 = .ok (.iconst 1, 1) := by decide +kernel
theorem dX9_debtOf_15 : decode cX9_debtOf 15 = .ok (.if_icmp .ne 12, 3) := by decide +kernel
theorem dX9_debtOf_18 : decode cX9_debtOf 18 = .ok (.aload_n 0, 1) := by decide +kernel
theorem dX9_debtOf_19 : decode cX9_debtOf 19 = .ok (.getfield 28, 3) := by decide +kernel
theorem dX9_debtOf_22 : decode cX9_debtOf 22 = .ok (.iload_n 1, 1) := by decide +kernel
theorem dX9_debtOf_23 : decode cX9_debtOf 23 = .ok (.iaload, 1) := by decide +kernel
theorem dX9_debtOf_24 : decode cX9_debtOf 24 = .ok (.goto 37, 3) := by decide +kernel
theorem dX9_debtOf_27 : decode cX9_debtOf 27 = .ok (.iload_n 2, 1) := by decide +kernel
theorem dX9_debtOf_28 : decode cX9_debtOf 28 = .ok (.iconst 2, 1) := by decide +kernel
theorem dX9_debtOf_29 : decode cX9_debtOf 29 = .ok (.if_icmp .ne 12, 3) := by decide +kernel
theorem dX9_debtOf_32 : decode cX9_debtOf 32 = .ok (.aload_n 0, 1) := by decide +kernel
theorem dX9_debtOf_33 : decode cX9_debtOf 33 = .ok (.getfield 31, 3) := by decide +kernel
theorem dX9_debtOf_36 : decode cX9_debtOf 36 = .ok (.iload_n 1, 1) := by decide +kernel
theorem dX9_debtOf_37 : decode cX9_debtOf 37 = .ok (.iaload, 1) := by decide +kernel
theorem dX9_debtOf_38 : decode cX9_debtOf 38 = .ok (.goto 23, 3) := by decide +kernel
theorem dX9_debtOf_41 : decode cX9_debtOf 41 = .ok (.iload_n 2, 1) := by decide +kernel
theorem dX9_debtOf_42 : decode cX9_debtOf 42 = .ok (.iconst 3, 1) := by decide +kernel
theorem dX9_debtOf_43 : decode cX9_debtOf 43 = .ok (.if_icmp .ne 12, 3) := by decide +kernel
theorem dX9_debtOf_46 : decode cX9_debtOf 46 = .ok (.aload_n 0, 1) := by decide +kernel
theorem dX9_debtOf_47 : decode cX9_debtOf 47 = .ok (.getfield 34, 3) := by decide +kernel
theorem dX9_debtOf_50 : decode cX9_debtOf 50 = .ok (.iload_n 1, 1) := by decide +kernel
theorem dX9_debtOf_51 : decode cX9_debtOf 51 = .ok (.iaload, 1) := by decide +kernel
theorem dX9_debtOf_52 : decode cX9_debtOf 52 = .ok (.goto 9, 3) := by decide +kernel
theorem dX9_debtOf_55 : decode cX9_debtOf 55 = .ok (.aload_n 0, 1) := by decide +kernel
theorem dX9_debtOf_56 : decode cX9_debtOf 56 = .ok (.getfield 37, 3) := by decide +kernel
theorem dX9_debtOf_59 : decode cX9_debtOf 59 = .ok (.iload_n 1, 1) := by decide +kernel
theorem dX9_debtOf_60 : decode cX9_debtOf 60 = .ok (.iaload, 1) := by decide +kernel
theorem dX9_debtOf_61 : decode cX9_debtOf 61 = .ok (.ireturn, 1) := by decide +kernel
def fX9_debtOf (a1 : Int32) (a2 : Int32) (h : fd_H) : Option (Int32) :=
if a2 = 0 then (
fd_g (fd_in a1 10) (
some ((h.1 79 a1.toNatClampNeg))))
else (
if a2 = (1 : Int32) then (
fd_g (fd_in a1 10) (
some ((h.1 80 a1.toNatClampNeg))))
else (
if a2 = (2 : Int32) then (
fd_g (fd_in a1 10) (
some ((h.1 81 a1.toNatClampNeg))))
else (
if a2 = (3 : Int32) then (
fd_g (fd_in a1 10) (
some ((h.1 82 a1.toNatClampNeg))))
else (
fd_g (fd_in a1 10) (
some ((h.1 83 a1.toNatClampNeg)))))))
set_option maxRecDepth 100000 in
set_option maxHeartbeats 4000000 in
theorem sX9_debtOf {g : fd_G} {hm : fd_H} {a1 : Int32} {a2 : Int32} {h : fd_H} {r : Int32} (hf : fX9_debtOf a1 a2 h = some r) : fd_S g mX9_debtOf 0 [.ref (g.2.2.2 + 73), .int a1, .int a2] fd_X0 (fd_mx hm h) (some (.int r)) fd_X0 (fd_mx hm h) 0 0 := by
  refine fd_S.of (by decide +kernel) (Nat.le_of_ble_eq_true rfl) ?_
  unfold fX9_debtOf at hf
  refine fr_loc (lv' := [(0, .ref (g.2.2.2 + 73)), (1, .int a1), (2, .int a2)]) [0, 1, 2] rfl ?_
  refine fr_iload_n (pc := 0) dX9_debtOf_0 2 rfl rfl ?_
  refine fr_if_ne (pc := 1) 13 dX9_debtOf_1 (by decide) (fun c1 => ?_) (fun c1 => ?_)
  · have hf := fd_f c1 hf
    refine fr_iload_n (pc := 13) dX9_debtOf_13 2 rfl rfl ?_
    refine fr_iconst (pc := 14) (v := (1 : Int32)) dX9_debtOf_14 (by decide) ?_
    refine fr_icmp_ne (pc := 15) 27 dX9_debtOf_15 (by decide) (fun c2 => ?_) (fun c2 => ?_)
    · have hf := fd_f c2 hf
      refine fr_iload_n (pc := 27) dX9_debtOf_27 2 rfl rfl ?_
      refine fr_iconst (pc := 28) (v := (2 : Int32)) dX9_debtOf_28 (by decide) ?_
      refine fr_icmp_ne (pc := 29) 41 dX9_debtOf_29 (by decide) (fun c3 => ?_) (fun c3 => ?_)
      · have hf := fd_f c3 hf
        refine fr_iload_n (pc := 41) dX9_debtOf_41 2 rfl rfl ?_
        refine fr_iconst (pc := 42) (v := (3 : Int32)) dX9_debtOf_42 (by decide) ?_
        refine fr_icmp_ne (pc := 43) 55 dX9_debtOf_43 (by decide) (fun c4 => ?_) (fun c4 => ?_)
        · have hf := fd_f c4 hf
          refine fr_aload_n (pc := 55) dX9_debtOf_55 0 rfl rfl ?_
          refine fr_getR (pc := 56) dX9_debtOf_56 fl_X9_37 (by decide) rfl rfl ?_
          refine fr_iload_n (pc := 59) dX9_debtOf_59 1 rfl rfl ?_
          obtain ⟨g5, hf⟩ := fd_g_e hf
          refine vm_iald (pc := 60) dX9_debtOf_60 (by decide) (by decide) rfl g5 ?_
          exact fr_iretP (x := (h.1 83 a1.toNatClampNeg)) (pc := 61) dX9_debtOf_61 rfl hf
        · have hf := fd_t c4 hf
          refine fr_aload_n (pc := 46) dX9_debtOf_46 0 rfl rfl ?_
          refine fr_getR (pc := 47) dX9_debtOf_47 fl_X9_34 (by decide) rfl rfl ?_
          refine fr_iload_n (pc := 50) dX9_debtOf_50 1 rfl rfl ?_
          obtain ⟨g6, hf⟩ := fd_g_e hf
          refine vm_iald (pc := 51) dX9_debtOf_51 (by decide) (by decide) rfl g6 ?_
          refine fr_goto (pc := 52) 61 dX9_debtOf_52 (by decide) ?_
          exact fr_iretP (x := (h.1 82 a1.toNatClampNeg)) (pc := 61) dX9_debtOf_61 rfl hf
      · have hf := fd_t c3 hf
        refine fr_aload_n (pc := 32) dX9_debtOf_32 0 rfl rfl ?_
        refine fr_getR (pc := 33) dX9_debtOf_33 fl_X9_31 (by decide) rfl rfl ?_
        refine fr_iload_n (pc := 36) dX9_debtOf_36 1 rfl rfl ?_
        obtain ⟨g7, hf⟩ := fd_g_e hf
        refine vm_iald (pc := 37) dX9_debtOf_37 (by decide) (by decide) rfl g7 ?_
        refine fr_goto (pc := 38) 61 dX9_debtOf_38 (by decide) ?_
        exact fr_iretP (x := (h.1 81 a1.toNatClampNeg)) (pc := 61) dX9_debtOf_61 rfl hf
    · have hf := fd_t c2 hf
      refine fr_aload_n (pc := 18) dX9_debtOf_18 0 rfl rfl ?_
      refine fr_getR (pc := 19) dX9_debtOf_19 fl_X9_28 (by decide) rfl rfl ?_
      refine fr_iload_n (pc := 22) dX9_debtOf_22 1 rfl rfl ?_
      obtain ⟨g8, hf⟩ := fd_g_e hf
      refine vm_iald (pc := 23) dX9_debtOf_23 (by decide) (by decide) rfl g8 ?_
      refine fr_goto (pc := 24) 61 dX9_debtOf_24 (by decide) ?_
      exact fr_iretP (x := (h.1 80 a1.toNatClampNeg)) (pc := 61) dX9_debtOf_61 rfl hf
  · have hf := fd_t c1 hf
    refine fr_aload_n (pc := 4) dX9_debtOf_4 0 rfl rfl ?_
    refine fr_getR (pc := 5) dX9_debtOf_5 fl_X9_25 (by decide) rfl rfl ?_
    refine fr_iload_n (pc := 8) dX9_debtOf_8 1 rfl rfl ?_
    obtain ⟨g9, hf⟩ := fd_g_e hf
    refine vm_iald (pc := 9) dX9_debtOf_9 (by decide) (by decide) rfl g9 ?_
    refine fr_goto (pc := 10) 61 dX9_debtOf_10 (by decide) ?_
    exact fr_iretP (x := (h.1 79 a1.toNatClampNeg)) (pc := 61) dX9_debtOf_61 rfl hf
theorem dX9_isTold_0 : decode cX9_isTold 0 = .ok (.iconst 0, 1) := by decide +kernel
theorem dX9_isTold_1 : decode cX9_isTold 1 = .ok (.istore 4, 2) := by decide +kernel
theorem dX9_isTold_3 : decode cX9_isTold 3 = .ok (.iconst 0, 1) := by decide +kernel
theorem dX9_isTold_4 : decode cX9_isTold 4 = .ok (.istore 5, 2) := by decide +kernel
theorem dX9_isTold_6 : decode cX9_isTold 6 = .ok (.iload 5, 2) := by decide +kernel
theorem dX9_isTold_8 : decode cX9_isTold 8 = .ok (.aload_n 0, 1) := by decide +kernel
theorem dX9_isTold_9 : decode cX9_isTold 9 = .ok (.getfield 40, 3) := by decide +kernel
theorem dX9_isTold_12 : decode cX9_isTold 12 = .ok (.iload_n 1, 1) := by decide +kernel
theorem dX9_isTold_13 : decode cX9_isTold 13 = .ok (.iaload, 1) := by decide +kernel
theorem dX9_isTold_14 : decode cX9_isTold 14 = .ok (.if_icmp .ge 67, 3) := by decide +kernel
theorem dX9_isTold_17 : decode cX9_isTold 17 = .ok (.iload 4, 2) := by decide +kernel
theorem dX9_isTold_19 : decode cX9_isTold 19 = .ok (.ifCond .ne 49, 3) := by decide +kernel
theorem dX9_isTold_22 : decode cX9_isTold 22 = .ok (.aload_n 0, 1) := by decide +kernel
theorem dX9_isTold_23 : decode cX9_isTold 23 = .ok (.getfield 43, 3) := by decide +kernel
theorem dX9_isTold_26 : decode cX9_isTold 26 = .ok (.bipush 8, 2) := by decide +kernel
theorem dX9_isTold_28 : decode cX9_isTold 28 = .ok (.iload_n 1, 1) := by decide +kernel
theorem dX9_isTold_29 : decode cX9_isTold 29 = .ok (.imul, 1) := by decide +kernel
theorem dX9_isTold_30 : decode cX9_isTold 30 = .ok (.iload 5, 2) := by decide +kernel
theorem dX9_isTold_32 : decode cX9_isTold 32 = .ok (.iadd, 1) := by decide +kernel
theorem dX9_isTold_33 : decode cX9_isTold 33 = .ok (.iaload, 1) := by decide +kernel
theorem dX9_isTold_34 : decode cX9_isTold 34 = .ok (.iload_n 2, 1) := by decide +kernel
theorem dX9_isTold_35 : decode cX9_isTold 35 = .ok (.if_icmp .ne 37, 3) := by decide +kernel
theorem dX9_isTold_38 : decode cX9_isTold 38 = .ok (.aload_n 0, 1) := by decide +kernel
theorem dX9_isTold_39 : decode cX9_isTold 39 = .ok (.getfield 46, 3) := by decide +kernel
theorem dX9_isTold_42 : decode cX9_isTold 42 = .ok (.bipush 8, 2) := by decide +kernel
theorem dX9_isTold_44 : decode cX9_isTold 44 = .ok (.iload_n 1, 1) := by decide +kernel
theorem dX9_isTold_45 : decode cX9_isTold 45 = .ok (.imul, 1) := by decide +kernel
theorem dX9_isTold_46 : decode cX9_isTold 46 = .ok (.iload 5, 2) := by decide +kernel
theorem dX9_isTold_48 : decode cX9_isTold 48 = .ok (.iadd, 1) := by decide +kernel
theorem dX9_isTold_49 : decode cX9_isTold 49 = .ok (.iaload, 1) := by decide +kernel
theorem dX9_isTold_50 : decode cX9_isTold 50 = .ok (.iload_n 3, 1) := by decide +kernel
theorem dX9_isTold_51 : decode cX9_isTold 51 = .ok (.if_icmp .ne 21, 3) := by decide +kernel
theorem dX9_isTold_54 : decode cX9_isTold 54 = .ok (.iload_n 1, 1) := by decide +kernel
theorem dX9_isTold_55 : decode cX9_isTold 55 = .ok (.iconst 2, 1) := by decide +kernel
theorem dX9_isTold_56 : decode cX9_isTold 56 = .ok (.if_icmp .ne 12, 3) := by decide +kernel
theorem dX9_isTold_59 : decode cX9_isTold 59 = .ok (.iload 5, 2) := by decide +kernel
theorem dX9_isTold_61 : decode cX9_isTold 61 = .ok (.aload_n 0, 1) := by decide +kernel
theorem dX9_isTold_62 : decode cX9_isTold 62 = .ok (.getfield 156, 3) := by decide +kernel
theorem dX9_isTold_65 : decode cX9_isTold 65 = .ok (.if_icmp .eq 7, 3) := by decide +kernel
theorem dX9_isTold_68 : decode cX9_isTold 68 = .ok (.iconst 1, 1) := by decide +kernel
theorem dX9_isTold_69 : decode cX9_isTold 69 = .ok (.goto 4, 3) := by decide +kernel
theorem dX9_isTold_72 : decode cX9_isTold 72 = .ok (.iconst 0, 1) := by decide +kernel
theorem dX9_isTold_73 : decode cX9_isTold 73 = .ok (.istore 4, 2) := by decide +kernel
theorem dX9_isTold_75 : decode cX9_isTold 75 = .ok (.iinc 5 1, 3) := by decide +kernel
theorem dX9_isTold_78 : decode cX9_isTold 78 = .ok (.goto (-72), 3) := by decide +kernel
theorem dX9_isTold_81 : decode cX9_isTold 81 = .ok (.iload 4, 2) := by decide +kernel
theorem dX9_isTold_83 : decode cX9_isTold 83 = .ok (.ireturn, 1) := by decide +kernel
def fX9_isTold_L73 (a1 : Int32) (a2 : Int32) (a3 : Int32) (h : fd_H) (K6 : Bool → Int32 → Option (Bool)) (v5 : Int32) (vs0 : Bool) : Option (Bool) :=
K6 vs0 (v5 + (1 : Int32))
set_option maxRecDepth 100000 in
set_option maxHeartbeats 4000000 in
theorem sX9_isTold_L73 {g : fd_G} {hm : fd_H} {a1 : Int32} {a2 : Int32} {a3 : Int32} {h : fd_H} {r : Bool} {K6 : Bool → Int32 → Option (Bool)} (hK6 : ∀ (v4 : Bool) (v5 : Int32), K6 v4 v5 = some r → fd_A g mX9_isTold fd_E (fd_rm 0 0 0) (fd_Q g (some (.int (fd_b r))) fd_X0 (fd_mx hm h) 0 0) 6 [(0, .ref (g.2.2.2 + 73)), (1, .int a1), (2, .int a2), (3, .int a3), (4, .int (fd_b v4)), (5, .int v5)] [] fd_X0 (fd_mx hm h) 0 0) : ∀ (v5 : Int32) (vs0 : Bool), fX9_isTold_L73 a1 a2 a3 h K6 v5 vs0 = some r → fd_A g mX9_isTold fd_E (fd_rm 0 0 0) (fd_Q g (some (.int (fd_b r))) fd_X0 (fd_mx hm h) 0 0) 73 [(0, .ref (g.2.2.2 + 73)), (1, .int a1), (2, .int a2), (3, .int a3), (5, .int v5)] [.int (fd_b vs0)] fd_X0 (fd_mx hm h) 0 0 := by
  intro v5 vs0 hf
  unfold fX9_isTold_L73 at hf
  refine fr_istore (pc := 73) (lv' := [(4, .int (fd_b vs0)), (0, .ref (g.2.2.2 + 73)), (1, .int a1), (2, .int a2), (3, .int a3), (5, .int v5)]) dX9_isTold_73 (by decide) rfl ?_
  refine fr_iinc (pc := 75) (v := (v5 + (1 : Int32))) (lv' := [(5, .int (v5 + (1 : Int32))), (4, .int (fd_b vs0)), (0, .ref (g.2.2.2 + 73)), (1, .int a1), (2, .int a2), (3, .int a3)]) dX9_isTold_75 5 rfl rfl (by decide) rfl ?_
  refine fr_goto (pc := 78) 6 dX9_isTold_78 (by decide) ?_
  refine fr_loc (lv' := [(0, .ref (g.2.2.2 + 73)), (1, .int a1), (2, .int a2), (3, .int a3), (4, .int (fd_b vs0)), (5, .int (v5 + (1 : Int32)))]) [2, 3, 4, 5, 1, 0] rfl ?_
  exact hK6 _ _ hf
def fX9_isTold_L72 (a1 : Int32) (a2 : Int32) (a3 : Int32) (h : fd_H) (K6 : Bool → Int32 → Option (Bool)) (v5 : Int32) : Option (Bool) :=
fX9_isTold_L73 a1 a2 a3 h K6 v5 false
set_option maxRecDepth 100000 in
set_option maxHeartbeats 4000000 in
theorem sX9_isTold_L72 {g : fd_G} {hm : fd_H} {a1 : Int32} {a2 : Int32} {a3 : Int32} {h : fd_H} {r : Bool} {K6 : Bool → Int32 → Option (Bool)} (hK6 : ∀ (v4 : Bool) (v5 : Int32), K6 v4 v5 = some r → fd_A g mX9_isTold fd_E (fd_rm 0 0 0) (fd_Q g (some (.int (fd_b r))) fd_X0 (fd_mx hm h) 0 0) 6 [(0, .ref (g.2.2.2 + 73)), (1, .int a1), (2, .int a2), (3, .int a3), (4, .int (fd_b v4)), (5, .int v5)] [] fd_X0 (fd_mx hm h) 0 0) : ∀ (v5 : Int32), fX9_isTold_L72 a1 a2 a3 h K6 v5 = some r → fd_A g mX9_isTold fd_E (fd_rm 0 0 0) (fd_Q g (some (.int (fd_b r))) fd_X0 (fd_mx hm h) 0 0) 72 [(0, .ref (g.2.2.2 + 73)), (1, .int a1), (2, .int a2), (3, .int a3), (5, .int v5)] [] fd_X0 (fd_mx hm h) 0 0 := by
  intro v5 hf
  unfold fX9_isTold_L72 at hf
  refine fr_iconst (pc := 72) (v := (0 : Int32)) dX9_isTold_72 (by decide) ?_
  refine fr_loc (lv' := [(0, .ref (g.2.2.2 + 73)), (1, .int a1), (2, .int a2), (3, .int a3), (5, .int v5)]) [0, 1, 2, 3, 4] rfl ?_
  exact sX9_isTold_L73 hK6  _ _ hf
def fX9_isTold_L6 (a1 : Int32) (a2 : Int32) (a3 : Int32) (h : fd_H) : Nat → Bool → Int32 → Option (Bool)
  | 0 => fun _ _ => none
  | n + 1 => fun v4 v5 =>
fd_g (fd_in a1 3) (
if (h.1 84 a1.toNatClampNeg) ≤ v5 then (
some (v4))
else (
if v4 = true then (
fX9_isTold_L73 a1 a2 a3 h (fX9_isTold_L6 a1 a2 a3 h n) v5 true)
else (
fd_g (fd_in (((8 : Int32) * a1) + v5) 24) (
if (h.1 85 (((8 : Int32) * a1) + v5).toNatClampNeg) = a2 then (
fd_g (fd_in (((8 : Int32) * a1) + v5) 24) (
if (h.1 86 (((8 : Int32) * a1) + v5).toNatClampNeg) = a3 then (
if a1 = (2 : Int32) then (
if v5 = (h.1 73 18) then (
fX9_isTold_L72 a1 a2 a3 h (fX9_isTold_L6 a1 a2 a3 h n) v5)
else (
fX9_isTold_L73 a1 a2 a3 h (fX9_isTold_L6 a1 a2 a3 h n) v5 true))
else (
fX9_isTold_L73 a1 a2 a3 h (fX9_isTold_L6 a1 a2 a3 h n) v5 true))
else (
fX9_isTold_L72 a1 a2 a3 h (fX9_isTold_L6 a1 a2 a3 h n) v5)))
else (
fX9_isTold_L72 a1 a2 a3 h (fX9_isTold_L6 a1 a2 a3 h n) v5)))))
set_option maxRecDepth 100000 in
set_option maxHeartbeats 4000000 in
theorem sX9_isTold_L6 {g : fd_G} {hm : fd_H} {a1 : Int32} {a2 : Int32} {a3 : Int32} {h : fd_H} {r : Bool} : ∀ (n : Nat) (v4 : Bool) (v5 : Int32), fX9_isTold_L6 a1 a2 a3 h n v4 v5 = some r → fd_A g mX9_isTold fd_E (fd_rm 0 0 0) (fd_Q g (some (.int (fd_b r))) fd_X0 (fd_mx hm h) 0 0) 6 [(0, .ref (g.2.2.2 + 73)), (1, .int a1), (2, .int a2), (3, .int a3), (4, .int (fd_b v4)), (5, .int v5)] [] fd_X0 (fd_mx hm h) 0 0 := by
  intro n
  induction n with
  | zero =>
    intro _ _ hf
    cases hf
  | succ n ih =>
    intro v4 v5 hf
    rw [fX9_isTold_L6] at hf
    refine fr_iload (pc := 6) dX9_isTold_6 5 rfl ?_
    refine fr_aload_n (pc := 8) dX9_isTold_8 0 rfl rfl ?_
    refine fr_getR (pc := 9) dX9_isTold_9 fl_X9_40 (by decide) rfl rfl ?_
    refine fr_iload_n (pc := 12) dX9_isTold_12 1 rfl rfl ?_
    obtain ⟨g1, hf⟩ := fd_g_e hf
    refine vm_iald (pc := 13) dX9_isTold_13 (by decide) (by decide) rfl g1 ?_
    refine fr_icmp_ge (pc := 14) 81 dX9_isTold_14 (by decide) (fun c2 => ?_) (fun c2 => ?_)
    · have hf := fd_t c2 hf
      refine fr_iload (pc := 81) dX9_isTold_81 4 rfl ?_
      exact fr_zretP (x := v4) (pc := 83) dX9_isTold_83 rfl hf
    · have hf := fd_f c2 hf
      refine fr_iload (pc := 17) dX9_isTold_17 4 rfl ?_
      refine fr_bn (pc := 19) 68 dX9_isTold_19 (by decide) (fun c3 => ?_) (fun c3 => ?_)
      · have hf := fd_t c3 hf
        refine fr_iconst (pc := 68) (v := (1 : Int32)) dX9_isTold_68 (by decide) ?_
        refine fr_goto (pc := 69) 73 dX9_isTold_69 (by decide) ?_
        refine fr_loc (lv' := [(0, .ref (g.2.2.2 + 73)), (1, .int a1), (2, .int a2), (3, .int a3), (5, .int v5)]) [0, 1, 2, 3, 5] rfl ?_
        exact sX9_isTold_L73 ih  _ _ hf
      · have hf := fd_f c3 hf
        refine fr_aload_n (pc := 22) dX9_isTold_22 0 rfl rfl ?_
        refine fr_getR (pc := 23) dX9_isTold_23 fl_X9_43 (by decide) rfl rfl ?_
        refine fr_bipush (pc := 26) (v := (8 : Int32)) dX9_isTold_26 (by decide) ?_
        refine fr_iload_n (pc := 28) dX9_isTold_28 1 rfl rfl ?_
        refine fr_imul (pc := 29) dX9_isTold_29 ?_
        refine fr_iload (pc := 30) dX9_isTold_30 5 rfl ?_
        refine fr_iadd (pc := 32) dX9_isTold_32 ?_
        obtain ⟨g4, hf⟩ := fd_g_e hf
        refine vm_iald (pc := 33) dX9_isTold_33 (by decide) (by decide) rfl g4 ?_
        refine fr_iload_n (pc := 34) dX9_isTold_34 2 rfl rfl ?_
        refine fr_icmp_ne (pc := 35) 72 dX9_isTold_35 (by decide) (fun c5 => ?_) (fun c5 => ?_)
        · have hf := fd_f c5 hf
          refine fr_loc (lv' := [(0, .ref (g.2.2.2 + 73)), (1, .int a1), (2, .int a2), (3, .int a3), (5, .int v5)]) [0, 1, 2, 3, 5] rfl ?_
          exact sX9_isTold_L72 ih  _ hf
        · have hf := fd_t c5 hf
          refine fr_aload_n (pc := 38) dX9_isTold_38 0 rfl rfl ?_
          refine fr_getR (pc := 39) dX9_isTold_39 fl_X9_46 (by decide) rfl rfl ?_
          refine fr_bipush (pc := 42) (v := (8 : Int32)) dX9_isTold_42 (by decide) ?_
          refine fr_iload_n (pc := 44) dX9_isTold_44 1 rfl rfl ?_
          refine fr_imul (pc := 45) dX9_isTold_45 ?_
          refine fr_iload (pc := 46) dX9_isTold_46 5 rfl ?_
          refine fr_iadd (pc := 48) dX9_isTold_48 ?_
          obtain ⟨g6, hf⟩ := fd_g_e hf
          refine vm_iald (pc := 49) dX9_isTold_49 (by decide) (by decide) rfl g6 ?_
          refine fr_iload_n (pc := 50) dX9_isTold_50 3 rfl rfl ?_
          refine fr_icmp_ne (pc := 51) 72 dX9_isTold_51 (by decide) (fun c7 => ?_) (fun c7 => ?_)
          · have hf := fd_f c7 hf
            refine fr_loc (lv' := [(0, .ref (g.2.2.2 + 73)), (1, .int a1), (2, .int a2), (3, .int a3), (5, .int v5)]) [0, 1, 2, 3, 5] rfl ?_
            exact sX9_isTold_L72 ih  _ hf
          · have hf := fd_t c7 hf
            refine fr_iload_n (pc := 54) dX9_isTold_54 1 rfl rfl ?_
            refine fr_iconst (pc := 55) (v := (2 : Int32)) dX9_isTold_55 (by decide) ?_
            refine fr_icmp_ne (pc := 56) 68 dX9_isTold_56 (by decide) (fun c8 => ?_) (fun c8 => ?_)
            · have hf := fd_f c8 hf
              refine fr_iconst (pc := 68) (v := (1 : Int32)) dX9_isTold_68 (by decide) ?_
              refine fr_goto (pc := 69) 73 dX9_isTold_69 (by decide) ?_
              refine fr_loc (lv' := [(0, .ref (g.2.2.2 + 73)), (1, .int a1), (2, .int a2), (3, .int a3), (5, .int v5)]) [0, 1, 2, 3, 5] rfl ?_
              exact sX9_isTold_L73 ih  _ _ hf
            · have hf := fd_t c8 hf
              refine fr_iload (pc := 59) dX9_isTold_59 5 rfl ?_
              refine fr_aload_n (pc := 61) dX9_isTold_61 0 rfl rfl ?_
              refine vm_getI (pc := 62) dX9_isTold_62 fl_X9_156 (by decide) (by decide) rfl rfl ?_
              refine fr_icmp_eq (pc := 65) 72 dX9_isTold_65 (by decide) (fun c9 => ?_) (fun c9 => ?_)
              · have hf := fd_t c9 hf
                refine fr_loc (lv' := [(0, .ref (g.2.2.2 + 73)), (1, .int a1), (2, .int a2), (3, .int a3), (5, .int v5)]) [0, 1, 2, 3, 5] rfl ?_
                exact sX9_isTold_L72 ih  _ hf
              · have hf := fd_f c9 hf
                refine fr_iconst (pc := 68) (v := (1 : Int32)) dX9_isTold_68 (by decide) ?_
                refine fr_goto (pc := 69) 73 dX9_isTold_69 (by decide) ?_
                refine fr_loc (lv' := [(0, .ref (g.2.2.2 + 73)), (1, .int a1), (2, .int a2), (3, .int a3), (5, .int v5)]) [0, 1, 2, 3, 5] rfl ?_
                exact sX9_isTold_L73 ih  _ _ hf
def fX9_isTold (a1 : Int32) (a2 : Int32) (a3 : Int32) (h : fd_H) : Option (Bool) :=
fX9_isTold_L6 a1 a2 a3 h fd_fu false (0 : Int32)
set_option maxRecDepth 100000 in
set_option maxHeartbeats 4000000 in
theorem sX9_isTold {g : fd_G} {hm : fd_H} {a1 : Int32} {a2 : Int32} {a3 : Int32} {h : fd_H} {r : Bool} (hf : fX9_isTold a1 a2 a3 h = some r) : fd_S g mX9_isTold 0 [.ref (g.2.2.2 + 73), .int a1, .int a2, .int a3] fd_X0 (fd_mx hm h) (some (.int (fd_b r))) fd_X0 (fd_mx hm h) 0 0 := by
  refine fd_S.of (by decide +kernel) (Nat.le_of_ble_eq_true rfl) ?_
  unfold fX9_isTold at hf
  refine fr_loc (lv' := [(0, .ref (g.2.2.2 + 73)), (1, .int a1), (2, .int a2), (3, .int a3)]) [0, 1, 2, 3] rfl ?_
  refine fr_iconst (pc := 0) (v := (0 : Int32)) dX9_isTold_0 (by decide) ?_
  refine fr_istore (pc := 1) (lv' := [(4, .int (0 : Int32)), (0, .ref (g.2.2.2 + 73)), (1, .int a1), (2, .int a2), (3, .int a3)]) dX9_isTold_1 (by decide) rfl ?_
  refine fr_iconst (pc := 3) (v := (0 : Int32)) dX9_isTold_3 (by decide) ?_
  refine fr_istore (pc := 4) (lv' := [(5, .int (0 : Int32)), (4, .int (0 : Int32)), (0, .ref (g.2.2.2 + 73)), (1, .int a1), (2, .int a2), (3, .int a3)]) dX9_isTold_4 (by decide) rfl ?_
  refine fr_loc (lv' := [(0, .ref (g.2.2.2 + 73)), (1, .int a1), (2, .int a2), (3, .int a3), (4, .int (fd_b false)), (5, .int (0 : Int32))]) [2, 3, 4, 5, 1, 0] rfl ?_
  exact sX9_isTold_L6 _  _ _ hf
theorem dX9_warmthBy_0 : decode cX9_warmthBy 0 = .ok (.aload_n 0, 1) := by decide +kernel
theorem dX9_warmthBy_1 : decode cX9_warmthBy 1 = .ok (.getfield 19, 3) := by decide +kernel
theorem dX9_warmthBy_4 : decode cX9_warmthBy 4 = .ok (.iload_n 2, 1) := by decide +kernel
theorem dX9_warmthBy_5 : decode cX9_warmthBy 5 = .ok (.iaload, 1) := by decide +kernel
theorem dX9_warmthBy_6 : decode cX9_warmthBy 6 = .ok (.istore_n 3, 1) := by decide +kernel
theorem dX9_warmthBy_7 : decode cX9_warmthBy 7 = .ok (.aload_n 0, 1) := by decide +kernel
theorem dX9_warmthBy_8 : decode cX9_warmthBy 8 = .ok (.getfield 22, 3) := by decide +kernel
theorem dX9_warmthBy_11 : decode cX9_warmthBy 11 = .ok (.iload_n 1, 1) := by decide +kernel
theorem dX9_warmthBy_12 : decode cX9_warmthBy 12 = .ok (.iaload, 1) := by decide +kernel
theorem dX9_warmthBy_13 : decode cX9_warmthBy 13 = .ok (.aload_n 0, 1) := by decide +kernel
theorem dX9_warmthBy_14 : decode cX9_warmthBy 14 = .ok (.getfield 16, 3) := by decide +kernel
theorem dX9_warmthBy_17 : decode cX9_warmthBy 17 = .ok (.iload_n 2, 1) := by decide +kernel
theorem dX9_warmthBy_18 : decode cX9_warmthBy 18 = .ok (.iaload, 1) := by decide +kernel
theorem dX9_warmthBy_19 : decode cX9_warmthBy 19 = .ok (.isub, 1) := by decide +kernel
theorem dX9_warmthBy_20 : decode cX9_warmthBy 20 = .ok (.iload_n 3, 1) := by decide +kernel
theorem dX9_warmthBy_21 : decode cX9_warmthBy 21 = .ok (.iconst 1, 1) := by decide +kernel
theorem dX9_warmthBy_22 : decode cX9_warmthBy 22 = .ok (.if_icmp .ne 8, 3) := by decide +kernel
theorem dX9_warmthBy_25 : decode cX9_warmthBy 25 = .ok (.bipush (-3), 2) := by decide +kernel
theorem dX9_warmthBy_27 : decode cX9_warmthBy 27 = .ok (.goto 22, 3) := by decide +kernel
theorem dX9_warmthBy_30 : decode cX9_warmthBy 30 = .ok (.iload_n 3, 1) := by decide +kernel
theorem dX9_warmthBy_31 : decode cX9_warmthBy 31 = .ok (.iconst 2, 1) := by decide +kernel
theorem dX9_warmthBy_32 : decode cX9_warmthBy 32 = .ok (.if_icmp .ne 7, 3) := by decide +kernel
theorem dX9_warmthBy_35 : decode cX9_warmthBy 35 = .ok (.iconst 2, 1) := by decide +kernel
theorem dX9_warmthBy_36 : decode cX9_warmthBy 36 = .ok (.goto 13, 3) := by decide +kernel
theorem dX9_warmthBy_39 : decode cX9_warmthBy 39 = .ok (.iload_n 3, 1) := by decide +kernel
theorem dX9_warmthBy_40 : decode cX9_warmthBy 40 = .ok (.iconst 3, 1) := by decide +kernel
theorem dX9_warmthBy_41 : decode cX9_warmthBy 41 = .ok (.if_icmp .ne 7, 3) := by decide +kernel
theorem dX9_warmthBy_44 : decode cX9_warmthBy 44 = .ok (.iconst 4, 1) := by decide +kernel
theorem dX9_warmthBy_45 : decode cX9_warmthBy 45 = .ok (.goto 4, 3) := by decide +kernel
theorem dX9_warmthBy_48 : decode cX9_warmthBy 48 = .ok (.iconst 0, 1) := by decide +kernel
theorem dX9_warmthBy_49 : decode cX9_warmthBy 49 = .ok (.iadd, 1) := by decide +kernel
theorem dX9_warmthBy_50 : decode cX9_warmthBy 50 = .ok (.ireturn, 1) := by decide +kernel
def fX9_warmthBy_L49 (a1 : Int32) (a2 : Int32) (h : fd_H) (vs0 : Int32) (vs1 : Int32) : Option (Int32) :=
some ((vs1 + vs0))
set_option maxRecDepth 100000 in
set_option maxHeartbeats 4000000 in
theorem sX9_warmthBy_L49 {g : fd_G} {hm : fd_H} {a1 : Int32} {a2 : Int32} {h : fd_H} {r : Int32} : ∀ (vs0 : Int32) (vs1 : Int32), fX9_warmthBy_L49 a1 a2 h vs0 vs1 = some r → fd_A g mX9_warmthBy fd_E (fd_rm 0 0 0) (fd_Q g (some (.int r)) fd_X0 (fd_mx hm h) 0 0) 49 [] [.int vs0, .int vs1] fd_X0 (fd_mx hm h) 0 0 := by
  intro vs0 vs1 hf
  unfold fX9_warmthBy_L49 at hf
  refine fr_iadd (pc := 49) dX9_warmthBy_49 ?_
  exact fr_iretP (x := (vs1 + vs0)) (pc := 50) dX9_warmthBy_50 rfl hf
def fX9_warmthBy (a1 : Int32) (a2 : Int32) (h : fd_H) : Option (Int32) :=
fd_g (fd_in a2 9) (
fd_lt ((h.1 77 a2.toNatClampNeg)) fun x2 =>
fd_g (fd_in a1 41) (
fd_g (fd_in a2 9) (
if x2 = (1 : Int32) then (
fX9_warmthBy_L49 a1 a2 h (-3 : Int32) ((h.1 78 a1.toNatClampNeg) - (h.1 76 a2.toNatClampNeg)))
else (
if x2 = (2 : Int32) then (
fX9_warmthBy_L49 a1 a2 h (2 : Int32) ((h.1 78 a1.toNatClampNeg) - (h.1 76 a2.toNatClampNeg)))
else (
if x2 = (3 : Int32) then (
fX9_warmthBy_L49 a1 a2 h (4 : Int32) ((h.1 78 a1.toNatClampNeg) - (h.1 76 a2.toNatClampNeg)))
else (
fX9_warmthBy_L49 a1 a2 h (0 : Int32) ((h.1 78 a1.toNatClampNeg) - (h.1 76 a2.toNatClampNeg))))))))
set_option maxRecDepth 100000 in
set_option maxHeartbeats 4000000 in
theorem sX9_warmthBy {g : fd_G} {hm : fd_H} {a1 : Int32} {a2 : Int32} {h : fd_H} {r : Int32} (hf : fX9_warmthBy a1 a2 h = some r) : fd_S g mX9_warmthBy 0 [.ref (g.2.2.2 + 73), .int a1, .int a2] fd_X0 (fd_mx hm h) (some (.int r)) fd_X0 (fd_mx hm h) 0 0 := by
  refine fd_S.of (by decide +kernel) (Nat.le_of_ble_eq_true rfl) ?_
  unfold fX9_warmthBy at hf
  refine fr_loc (lv' := [(0, .ref (g.2.2.2 + 73)), (1, .int a1), (2, .int a2)]) [0, 1, 2] rfl ?_
  refine fr_aload_n (pc := 0) dX9_warmthBy_0 0 rfl rfl ?_
  refine fr_getR (pc := 1) dX9_warmthBy_1 fl_X9_19 (by decide) rfl rfl ?_
  refine fr_iload_n (pc := 4) dX9_warmthBy_4 2 rfl rfl ?_
  obtain ⟨g1, hf⟩ := fd_g_e hf
  refine vm_iald (pc := 5) dX9_warmthBy_5 (by decide) (by decide) rfl g1 ?_
  obtain ⟨x2, ex2, hf⟩ := fd_lt_e hf
  refine fr_nmi ex2 ?_
  refine fr_istore_n (pc := 6) (lv' := [(3, .int x2), (0, .ref (g.2.2.2 + 73)), (1, .int a1), (2, .int a2)]) dX9_warmthBy_6 rfl (by decide) rfl ?_
  refine fr_aload_n (pc := 7) dX9_warmthBy_7 1 rfl rfl ?_
  refine fr_getR (pc := 8) dX9_warmthBy_8 fl_X9_22 (by decide) rfl rfl ?_
  refine fr_iload_n (pc := 11) dX9_warmthBy_11 2 rfl rfl ?_
  obtain ⟨g3, hf⟩ := fd_g_e hf
  refine vm_iald (pc := 12) dX9_warmthBy_12 (by decide) (by decide) rfl g3 ?_
  refine fr_aload_n (pc := 13) dX9_warmthBy_13 1 rfl rfl ?_
  refine fr_getR (pc := 14) dX9_warmthBy_14 fl_X9_16 (by decide) rfl rfl ?_
  refine fr_iload_n (pc := 17) dX9_warmthBy_17 3 rfl rfl ?_
  obtain ⟨g4, hf⟩ := fd_g_e hf
  refine vm_iald (pc := 18) dX9_warmthBy_18 (by decide) (by decide) rfl g4 ?_
  refine fr_isub (pc := 19) dX9_warmthBy_19 ?_
  refine fr_iload_n (pc := 20) dX9_warmthBy_20 0 rfl rfl ?_
  refine fr_iconst (pc := 21) (v := (1 : Int32)) dX9_warmthBy_21 (by decide) ?_
  refine fr_icmp_ne (pc := 22) 30 dX9_warmthBy_22 (by decide) (fun c5 => ?_) (fun c5 => ?_)
  · have hf := fd_f c5 hf
    refine fr_iload_n (pc := 30) dX9_warmthBy_30 0 rfl rfl ?_
    refine fr_iconst (pc := 31) (v := (2 : Int32)) dX9_warmthBy_31 (by decide) ?_
    refine fr_icmp_ne (pc := 32) 39 dX9_warmthBy_32 (by decide) (fun c6 => ?_) (fun c6 => ?_)
    · have hf := fd_f c6 hf
      refine fr_iload_n (pc := 39) dX9_warmthBy_39 0 rfl rfl ?_
      refine fr_iconst (pc := 40) (v := (3 : Int32)) dX9_warmthBy_40 (by decide) ?_
      refine fr_icmp_ne (pc := 41) 48 dX9_warmthBy_41 (by decide) (fun c7 => ?_) (fun c7 => ?_)
      · have hf := fd_f c7 hf
        refine fr_iconst (pc := 48) (v := (0 : Int32)) dX9_warmthBy_48 (by decide) ?_
        refine fr_loc (lv' := []) [] rfl ?_
        exact sX9_warmthBy_L49  _ _ hf
      · have hf := fd_t c7 hf
        refine fr_iconst (pc := 44) (v := (4 : Int32)) dX9_warmthBy_44 (by decide) ?_
        refine fr_goto (pc := 45) 49 dX9_warmthBy_45 (by decide) ?_
        refine fr_loc (lv' := []) [] rfl ?_
        exact sX9_warmthBy_L49  _ _ hf
    · have hf := fd_t c6 hf
      refine fr_iconst (pc := 35) (v := (2 : Int32)) dX9_warmthBy_35 (by decide) ?_
      refine fr_goto (pc := 36) 49 dX9_warmthBy_36 (by decide) ?_
      refine fr_loc (lv' := []) [] rfl ?_
      exact sX9_warmthBy_L49  _ _ hf
  · have hf := fd_t c5 hf
    refine fr_bipush (pc := 25) (v := (-3 : Int32)) dX9_warmthBy_25 (by decide) ?_
    refine fr_goto (pc := 27) 49 dX9_warmthBy_27 (by decide) ?_
    refine fr_loc (lv' := []) [] rfl ?_
    exact sX9_warmthBy_L49  _ _ hf
theorem dX9_hasHad_0 : decode cX9_hasHad 0 = .ok (.iload_n 1, 1) := by decide +kernel
theorem dX9_hasHad_1 : decode cX9_hasHad 1 = .ok (.aload_n 0, 1) := by decide +kernel
theorem dX9_hasHad_2 : decode cX9_hasHad 2 = .ok (.getfield 105, 3) := by decide +kernel
theorem dX9_hasHad_5 : decode cX9_hasHad 5 = .ok (.if_icmp .ge 27, 3) := by decide +kernel
theorem dX9_hasHad_8 : decode cX9_hasHad 8 = .ok (.aload_n 0, 1) := by decide +kernel
theorem dX9_hasHad_9 : decode cX9_hasHad 9 = .ok (.getfield 53, 3) := by decide +kernel
theorem dX9_hasHad_12 : decode cX9_hasHad 12 = .ok (.iload_n 1, 1) := by decide +kernel
theorem dX9_hasHad_13 : decode cX9_hasHad 13 = .ok (.iaload, 1) := by decide +kernel
theorem dX9_hasHad_14 : decode cX9_hasHad 14 = .ok (.iconst (-1), 1) := by decide +kernel
theorem dX9_hasHad_15 : decode cX9_hasHad 15 = .ok (.if_icmp .eq 17, 3) := by decide +kernel
theorem dX9_hasHad_18 : decode cX9_hasHad 18 = .ok (.aload_n 0, 1) := by decide +kernel
theorem dX9_hasHad_19 : decode cX9_hasHad 19 = .ok (.getfield 53, 3) := by decide +kernel
theorem dX9_hasHad_22 : decode cX9_hasHad 22 = .ok (.iload_n 1, 1) := by decide +kernel
theorem dX9_hasHad_23 : decode cX9_hasHad 23 = .ok (.iaload, 1) := by decide +kernel
theorem dX9_hasHad_24 : decode cX9_hasHad 24 = .ok (.iload_n 2, 1) := by decide +kernel
theorem dX9_hasHad_25 : decode cX9_hasHad 25 = .ok (.if_icmp .gt 7, 3) := by decide +kernel
theorem dX9_hasHad_28 : decode cX9_hasHad 28 = .ok (.iconst 1, 1) := by decide +kernel
theorem dX9_hasHad_29 : decode cX9_hasHad 29 = .ok (.goto 4, 3) := by decide +kernel
theorem dX9_hasHad_32 : decode cX9_hasHad 32 = .ok (.iconst 0, 1) := by decide +kernel
theorem dX9_hasHad_33 : decode cX9_hasHad 33 = .ok (.ireturn, 1) := by decide +kernel
def fX9_hasHad (a1 : Int32) (a2 : Int32) (h : fd_H) : Option (Bool) :=
if (h.1 73 2) ≤ a1 then (
some (false))
else (
fd_g (fd_in a1 8) (
if (h.1 88 a1.toNatClampNeg) = (-1 : Int32) then (
some (false))
else (
fd_g (fd_in a1 8) (
if a2 < (h.1 88 a1.toNatClampNeg) then (
some (false))
else (
some (true))))))
set_option maxRecDepth 100000 in
set_option maxHeartbeats 4000000 in
theorem sX9_hasHad {g : fd_G} {hm : fd_H} {a1 : Int32} {a2 : Int32} {h : fd_H} {r : Bool} (hf : fX9_hasHad a1 a2 h = some r) : fd_S g mX9_hasHad 0 [.ref (g.2.2.2 + 73), .int a1, .int a2] fd_X0 (fd_mx hm h) (some (.int (fd_b r))) fd_X0 (fd_mx hm h) 0 0 := by
  refine fd_S.of (by decide +kernel) (Nat.le_of_ble_eq_true rfl) ?_
  unfold fX9_hasHad at hf
  refine fr_loc (lv' := [(0, .ref (g.2.2.2 + 73)), (1, .int a1), (2, .int a2)]) [0, 1, 2] rfl ?_
  refine fr_iload_n (pc := 0) dX9_hasHad_0 1 rfl rfl ?_
  refine fr_aload_n (pc := 1) dX9_hasHad_1 0 rfl rfl ?_
  refine vm_getI (pc := 2) dX9_hasHad_2 fl_X9_105 (by decide) (by decide) rfl rfl ?_
  refine fr_icmp_ge (pc := 5) 32 dX9_hasHad_5 (by decide) (fun c1 => ?_) (fun c1 => ?_)
  · have hf := fd_t c1 hf
    refine fr_iconst (pc := 32) (v := (0 : Int32)) dX9_hasHad_32 (by decide) ?_
    exact fr_zretP (x := false) (pc := 33) dX9_hasHad_33 rfl hf
  · have hf := fd_f c1 hf
    refine fr_aload_n (pc := 8) dX9_hasHad_8 0 rfl rfl ?_
    refine fr_getR (pc := 9) dX9_hasHad_9 fl_X9_53 (by decide) rfl rfl ?_
    refine fr_iload_n (pc := 12) dX9_hasHad_12 1 rfl rfl ?_
    obtain ⟨g2, hf⟩ := fd_g_e hf
    refine vm_iald (pc := 13) dX9_hasHad_13 (by decide) (by decide) rfl g2 ?_
    refine fr_iconst (pc := 14) (v := (-1 : Int32)) dX9_hasHad_14 (by decide) ?_
    refine fr_icmp_eq (pc := 15) 32 dX9_hasHad_15 (by decide) (fun c3 => ?_) (fun c3 => ?_)
    · have hf := fd_t c3 hf
      refine fr_iconst (pc := 32) (v := (0 : Int32)) dX9_hasHad_32 (by decide) ?_
      exact fr_zretP (x := false) (pc := 33) dX9_hasHad_33 rfl hf
    · have hf := fd_f c3 hf
      refine fr_aload_n (pc := 18) dX9_hasHad_18 0 rfl rfl ?_
      refine fr_getR (pc := 19) dX9_hasHad_19 fl_X9_53 (by decide) rfl rfl ?_
      refine fr_iload_n (pc := 22) dX9_hasHad_22 1 rfl rfl ?_
      obtain ⟨g4, hf⟩ := fd_g_e hf
      refine vm_iald (pc := 23) dX9_hasHad_23 (by decide) (by decide) rfl g4 ?_
      refine fr_iload_n (pc := 24) dX9_hasHad_24 2 rfl rfl ?_
      refine fr_icmp_gt (pc := 25) 32 dX9_hasHad_25 (by decide) (fun c5 => ?_) (fun c5 => ?_)
      · have hf := fd_t c5 hf
        refine fr_iconst (pc := 32) (v := (0 : Int32)) dX9_hasHad_32 (by decide) ?_
        exact fr_zretP (x := false) (pc := 33) dX9_hasHad_33 rfl hf
      · have hf := fd_f c5 hf
        refine fr_iconst (pc := 28) (v := (1 : Int32)) dX9_hasHad_28 (by decide) ?_
        refine fr_goto (pc := 29) 33 dX9_hasHad_29 (by decide) ?_
        exact fr_zretP (x := true) (pc := 33) dX9_hasHad_33 rfl hf
theorem dX9_forget_0 : decode cX9_forget 0 = .ok (.aload_n 0, 1) := by decide +kernel
theorem dX9_forget_1 : decode cX9_forget 1 = .ok (.getfield 235, 3) := by decide +kernel
theorem dX9_forget_4 : decode cX9_forget 4 = .ok (.istore_n 1, 1) := by decide +kernel
theorem dX9_forget_5 : decode cX9_forget 5 = .ok (.aload_n 0, 1) := by decide +kernel
theorem dX9_forget_6 : decode cX9_forget 6 = .ok (.iconst 0, 1) := by decide +kernel
theorem dX9_forget_7 : decode cX9_forget 7 = .ok (.putfield 235, 3) := by decide +kernel
theorem dX9_forget_10 : decode cX9_forget 10 = .ok (.iload_n 1, 1) := by decide +kernel
theorem dX9_forget_11 : decode cX9_forget 11 = .ok (.ireturn, 1) := by decide +kernel
def fX9_forget  (h : fd_H) : Option (Int32 × fd_H) :=
fd_lt ((h.1 73 21)) fun x1 =>
fd_lt (fd_ui h 73 21 (0 : Int32)) fun h2 =>
some (x1, h2)
set_option maxRecDepth 100000 in
set_option maxHeartbeats 4000000 in
theorem sX9_forget {g : fd_G} {hm : fd_H} {r : Int32 × fd_H} {h : fd_H} (hf : fX9_forget  h = some r) : fd_S g mX9_forget 0 [.ref (g.2.2.2 + 73)] fd_X0 (fd_mx hm h) (some (.int r.1)) fd_X0 (fd_mx hm r.2) 0 0 := by
  refine fd_S.of (by decide +kernel) (Nat.le_of_ble_eq_true rfl) ?_
  unfold fX9_forget at hf
  refine fr_loc (lv' := [(0, .ref (g.2.2.2 + 73))]) [0] rfl ?_
  refine fr_aload_n (pc := 0) dX9_forget_0 0 rfl rfl ?_
  refine vm_getI (pc := 1) dX9_forget_1 fl_X9_235 (by decide) (by decide) rfl rfl ?_
  obtain ⟨x1, ex1, hf⟩ := fd_lt_e hf
  refine fr_nmi ex1 ?_
  refine fr_istore_n (pc := 4) (lv' := [(1, .int x1), (0, .ref (g.2.2.2 + 73))]) dX9_forget_4 rfl (by decide) rfl ?_
  refine fr_aload_n (pc := 5) dX9_forget_5 1 rfl rfl ?_
  refine fr_iconst (pc := 6) (v := (0 : Int32)) dX9_forget_6 (by decide) ?_
  obtain ⟨h2, eh2, hf⟩ := fd_lt_e hf
  refine vm_putI (pc := 7) dX9_forget_7 fl_X9_235 ft_X9_21 (by decide) (by decide) rfl rfl eh2 ?_
  refine fr_iload_n (pc := 10) dX9_forget_10 0 rfl rfl ?_
  exact vm_iretW (x := x1) (pc := 11) dX9_forget_11 rfl hf
theorem dX9_meets_0 : decode cX9_meets 0 = .ok (.aload_n 0, 1) := by decide +kernel
theorem dX9_meets_1 : decode cX9_meets 1 = .ok (.iload_n 1, 1) := by decide +kernel
theorem dX9_meets_2 : decode cX9_meets 2 = .ok (.putfield 281, 3) := by decide +kernel
theorem dX9_meets_5 : decode cX9_meets 5 = .ok (.bipush (-10), 2) := by decide +kernel
theorem dX9_meets_7 : decode cX9_meets 7 = .ok (.iload_n 1, 1) := by decide +kernel
theorem dX9_meets_8 : decode cX9_meets 8 = .ok (.isub, 1) := by decide +kernel
theorem dX9_meets_9 : decode cX9_meets 9 = .ok (.ireturn, 1) := by decide +kernel
def fX9_meets (a1 : Int32) (h : fd_H) : Option (Int32 × fd_H) :=
fd_lt (fd_ui h 73 30 a1) fun h1 =>
some (((-10 : Int32) - a1), h1)
set_option maxRecDepth 100000 in
set_option maxHeartbeats 4000000 in
theorem sX9_meets {g : fd_G} {hm : fd_H} {a1 : Int32} {r : Int32 × fd_H} {h : fd_H} (hf : fX9_meets a1 h = some r) : fd_S g mX9_meets 0 [.ref (g.2.2.2 + 73), .int a1] fd_X0 (fd_mx hm h) (some (.int r.1)) fd_X0 (fd_mx hm r.2) 0 0 := by
  refine fd_S.of (by decide +kernel) (Nat.le_of_ble_eq_true rfl) ?_
  unfold fX9_meets at hf
  refine fr_loc (lv' := [(0, .ref (g.2.2.2 + 73)), (1, .int a1)]) [0, 1] rfl ?_
  refine fr_aload_n (pc := 0) dX9_meets_0 0 rfl rfl ?_
  refine fr_iload_n (pc := 1) dX9_meets_1 1 rfl rfl ?_
  obtain ⟨h1, eh1, hf⟩ := fd_lt_e hf
  refine vm_putI (pc := 2) dX9_meets_2 fl_X9_281 ft_X9_30 (by decide) (by decide) rfl rfl eh1 ?_
  refine fr_bipush (pc := 5) (v := (-10 : Int32)) dX9_meets_5 (by decide) ?_
  refine fr_iload_n (pc := 7) dX9_meets_7 1 rfl rfl ?_
  refine fr_isub (pc := 8) dX9_meets_8 ?_
  exact vm_iretW (x := ((-10 : Int32) - a1)) (pc := 9) dX9_meets_9 rfl hf
theorem dX9_keepsItem_0 : decode cX9_keepsItem 0 = .ok (.aload_n 0, 1) := by decide +kernel
theorem dX9_keepsItem_1 : decode cX9_keepsItem 1 = .ok (.getfield 77, 3) := by decide +kernel
theorem dX9_keepsItem_4 : decode cX9_keepsItem 4 = .ok (.bipush 48, 2) := by decide +kernel
theorem dX9_keepsItem_6 : decode cX9_keepsItem 6 = .ok (.iload_n 1, 1) := by decide +kernel
theorem dX9_keepsItem_7 : decode cX9_keepsItem 7 = .ok (.imul, 1) := by decide +kernel
theorem dX9_keepsItem_8 : decode cX9_keepsItem 8 = .ok (.iload_n 2, 1) := by decide +kernel
theorem dX9_keepsItem_9 : decode cX9_keepsItem 9 = .ok (.iadd, 1) := by decide +kernel
theorem dX9_keepsItem_10 : decode cX9_keepsItem 10 = .ok (.aload_n 0, 1) := by decide +kernel
theorem dX9_keepsItem_11 : decode cX9_keepsItem 11 = .ok (.getfield 71, 3) := by decide +kernel
theorem dX9_keepsItem_14 : decode cX9_keepsItem 14 = .ok (.iload_n 1, 1) := by decide +kernel
theorem dX9_keepsItem_15 : decode cX9_keepsItem 15 = .ok (.iaload, 1) := by decide +kernel
theorem dX9_keepsItem_16 : decode cX9_keepsItem 16 = .ok (.ifCond .ne 8, 3) := by decide +kernel
theorem dX9_keepsItem_19 : decode cX9_keepsItem 19 = .ok (.iload_n 3, 1) := by decide +kernel
theorem dX9_keepsItem_20 : decode cX9_keepsItem 20 = .ok (.i2b, 1) := by decide +kernel
theorem dX9_keepsItem_21 : decode cX9_keepsItem 21 = .ok (.goto 19, 3) := by decide +kernel
theorem dX9_keepsItem_24 : decode cX9_keepsItem 24 = .ok (.aload_n 0, 1) := by decide +kernel
theorem dX9_keepsItem_25 : decode cX9_keepsItem 25 = .ok (.getfield 71, 3) := by decide +kernel
theorem dX9_keepsItem_28 : decode cX9_keepsItem 28 = .ok (.iload_n 1, 1) := by decide +kernel
theorem dX9_keepsItem_29 : decode cX9_keepsItem 29 = .ok (.iaload, 1) := by decide +kernel
theorem dX9_keepsItem_30 : decode cX9_keepsItem 30 = .ok (.iconst 1, 1) := by decide +kernel
theorem dX9_keepsItem_31 : decode cX9_keepsItem 31 = .ok (.if_icmp .ne 8, 3) := by decide +kernel
theorem dX9_keepsItem_34 : decode cX9_keepsItem 34 = .ok (.iload_n 3, 1) := by decide +kernel
theorem dX9_keepsItem_35 : decode cX9_keepsItem 35 = .ok (.i2s, 1) := by decide +kernel
theorem dX9_keepsItem_36 : decode cX9_keepsItem 36 = .ok (.goto 4, 3) := by decide +kernel
theorem dX9_keepsItem_39 : decode cX9_keepsItem 39 = .ok (.iload_n 3, 1) := by decide +kernel
theorem dX9_keepsItem_40 : decode cX9_keepsItem 40 = .ok (.iastore, 1) := by decide +kernel
theorem dX9_keepsItem_41 : decode cX9_keepsItem 41 = .ok (.return_, 1) := by decide +kernel
def fX9_keepsItem_L40 (a1 : Int32) (a2 : Int32) (a3 : Int32) (vs0 : Int32) (h : fd_H) : Option (fd_H) :=
fd_g (fd_in (((48 : Int32) * a1) + a2) 192) (
fd_lt (fd_ui h 96 (((48 : Int32) * a1) + a2).toNatClampNeg vs0) fun h2 =>
some h2)
set_option maxRecDepth 100000 in
set_option maxHeartbeats 4000000 in
theorem sX9_keepsItem_L40 {g : fd_G} {hm : fd_H} {a1 : Int32} {a2 : Int32} {a3 : Int32} {r : fd_H} : ∀ (vs0 : Int32) (h : fd_H), fX9_keepsItem_L40 a1 a2 a3 vs0 h = some r → fd_A g mX9_keepsItem fd_E (fd_rm 0 0 0) (fd_Q g none fd_X0 (fd_mx hm r) 0 0) 40 [] [.int vs0, .int (((48 : Int32) * a1) + a2), .ref (g.2.2.2 + 96)] fd_X0 (fd_mx hm h) 0 0 := by
  intro vs0 h hf
  unfold fX9_keepsItem_L40 at hf
  obtain ⟨g1, hf⟩ := fd_g_e hf
  obtain ⟨h2, eh2, hf⟩ := fd_lt_e hf
  refine vm_iast (pc := 40) dX9_keepsItem_40 (by decide) (by decide) rfl g1 eh2 ?_
  exact vm_vretW (pc := 41) dX9_keepsItem_41 rfl hf
def fX9_keepsItem (a1 : Int32) (a2 : Int32) (a3 : Int32) (h : fd_H) : Option (fd_H) :=
fd_g (fd_in a1 4) (
if (h.1 94 a1.toNatClampNeg) = 0 then (
fX9_keepsItem_L40 a1 a2 a3 ((a3).toInt8.toInt32) h)
else (
fd_g (fd_in a1 4) (
if (h.1 94 a1.toNatClampNeg) = (1 : Int32) then (
fX9_keepsItem_L40 a1 a2 a3 ((a3).toInt16.toInt32) h)
else (
fX9_keepsItem_L40 a1 a2 a3 a3 h))))
set_option maxRecDepth 100000 in
set_option maxHeartbeats 4000000 in
theorem sX9_keepsItem {g : fd_G} {hm : fd_H} {a1 : Int32} {a2 : Int32} {a3 : Int32} {r : fd_H} {h : fd_H} (hf : fX9_keepsItem a1 a2 a3 h = some r) : fd_S g mX9_keepsItem 0 [.ref (g.2.2.2 + 73), .int a1, .int a2, .int a3] fd_X0 (fd_mx hm h) none fd_X0 (fd_mx hm r) 0 0 := by
  refine fd_S.of (by decide +kernel) (Nat.le_of_ble_eq_true rfl) ?_
  unfold fX9_keepsItem at hf
  refine fr_loc (lv' := [(0, .ref (g.2.2.2 + 73)), (1, .int a1), (2, .int a2), (3, .int a3)]) [0, 1, 2, 3] rfl ?_
  refine fr_aload_n (pc := 0) dX9_keepsItem_0 0 rfl rfl ?_
  refine fr_getR (pc := 1) dX9_keepsItem_1 fl_X9_77 (by decide) rfl rfl ?_
  refine fr_bipush (pc := 4) (v := (48 : Int32)) dX9_keepsItem_4 (by decide) ?_
  refine fr_iload_n (pc := 6) dX9_keepsItem_6 1 rfl rfl ?_
  refine fr_imul (pc := 7) dX9_keepsItem_7 ?_
  refine fr_iload_n (pc := 8) dX9_keepsItem_8 2 rfl rfl ?_
  refine fr_iadd (pc := 9) dX9_keepsItem_9 ?_
  refine fr_aload_n (pc := 10) dX9_keepsItem_10 0 rfl rfl ?_
  refine fr_getR (pc := 11) dX9_keepsItem_11 fl_X9_71 (by decide) rfl rfl ?_
  refine fr_iload_n (pc := 14) dX9_keepsItem_14 1 rfl rfl ?_
  obtain ⟨g1, hf⟩ := fd_g_e hf
  refine vm_iald (pc := 15) dX9_keepsItem_15 (by decide) (by decide) rfl g1 ?_
  refine fr_if_ne (pc := 16) 24 dX9_keepsItem_16 (by decide) (fun c2 => ?_) (fun c2 => ?_)
  · have hf := fd_f c2 hf
    refine fr_aload_n (pc := 24) dX9_keepsItem_24 0 rfl rfl ?_
    refine fr_getR (pc := 25) dX9_keepsItem_25 fl_X9_71 (by decide) rfl rfl ?_
    refine fr_iload_n (pc := 28) dX9_keepsItem_28 1 rfl rfl ?_
    obtain ⟨g3, hf⟩ := fd_g_e hf
    refine vm_iald (pc := 29) dX9_keepsItem_29 (by decide) (by decide) rfl g3 ?_
    refine fr_iconst (pc := 30) (v := (1 : Int32)) dX9_keepsItem_30 (by decide) ?_
    refine fr_icmp_ne (pc := 31) 39 dX9_keepsItem_31 (by decide) (fun c4 => ?_) (fun c4 => ?_)
    · have hf := fd_f c4 hf
      refine fr_iload_n (pc := 39) dX9_keepsItem_39 3 rfl rfl ?_
      refine fr_loc (lv' := []) [] rfl ?_
      exact sX9_keepsItem_L40  _ _ hf
    · have hf := fd_t c4 hf
      refine fr_iload_n (pc := 34) dX9_keepsItem_34 3 rfl rfl ?_
      refine fr_i2s (pc := 35) dX9_keepsItem_35 ?_
      refine fr_goto (pc := 36) 40 dX9_keepsItem_36 (by decide) ?_
      refine fr_loc (lv' := []) [] rfl ?_
      exact sX9_keepsItem_L40  _ _ hf
  · have hf := fd_t c2 hf
    refine fr_iload_n (pc := 19) dX9_keepsItem_19 3 rfl rfl ?_
    refine fr_i2b (pc := 20) dX9_keepsItem_20 ?_
    refine fr_goto (pc := 21) 40 dX9_keepsItem_21 (by decide) ?_
    refine fr_loc (lv' := []) [] rfl ?_
    exact sX9_keepsItem_L40  _ _ hf
theorem dJ13_bitCount_95d88_0 : decode cJ13_bitCount_95d88 0 = .ok (.lload_n 0, 1) := by decide +kernel
theorem dJ13_bitCount_95d88_1 : decode cJ13_bitCount_95d88 1 = .ok (.lload_n 0, 1) := by decide +kernel
theorem dJ13_bitCount_95d88_2 : decode cJ13_bitCount_95d88 2 = .ok (.iconst 1, 1) := by decide +kernel
theorem dJ13_bitCount_95d88_3 : decode cJ13_bitCount_95d88 3 = .ok (.lushr, 1) := by decide +kernel
theorem dJ13_bitCount_95d88_4 : decode cJ13_bitCount_95d88 4 = .ok (.ldc2_w 314, 3) := by decide +kernel
theorem dJ13_bitCount_95d88_7 : decode cJ13_bitCount_95d88 7 = .ok (.land, 1) := by decide +kernel
theorem dJ13_bitCount_95d88_8 : decode cJ13_bitCount_95d88 8 = .ok (.lsub, 1) := by decide +kernel
theorem dJ13_bitCount_95d88_9 : decode cJ13_bitCount_95d88 9 = .ok (.lstore_n 0, 1) := by decide +kernel
theorem dJ13_bitCount_95d88_10 : decode cJ13_bitCount_95d88 10 = .ok (.lload_n 0, 1) := by decide +kernel
theorem dJ13_bitCount_95d88_11 : decode cJ13_bitCount_95d88 11 = .ok (.ldc2_w 316, 3) := by decide +kernel
theorem dJ13_bitCount_95d88_14 : decode cJ13_bitCount_95d88 14 = .ok (.land, 1) := by decide +kernel
theorem dJ13_bitCount_95d88_15 : decode cJ13_bitCount_95d88 15 = .ok (.lload_n 0, 1) := by decide +kernel
theorem dJ13_bitCount_95d88_16 : decode cJ13_bitCount_95d88 16 = .ok (.iconst 2, 1) := by decide +kernel
theorem dJ13_bitCount_95d88_17 : decode cJ13_bitCount_95d88 17 = .ok (.lushr, 1) := by decide +kernel
theorem dJ13_bitCount_95d88_18 : decode cJ13_bitCount_95d88 18 = .ok (.ldc2_w 316, 3) := by decide +kernel
theorem dJ13_bitCount_95d88_21 : decode cJ13_bitCount_95d88 21 = .ok (.land, 1) := by decide +kernel
theorem dJ13_bitCount_95d88_22 : decode cJ13_bitCount_95d88 22 = .ok (.ladd, 1) := by decide +kernel
theorem dJ13_bitCount_95d88_23 : decode cJ13_bitCount_95d88 23 = .ok (.lstore_n 0, 1) := by decide +kernel
theorem dJ13_bitCount_95d88_24 : decode cJ13_bitCount_95d88 24 = .ok (.lload_n 0, 1) := by decide +kernel
theorem dJ13_bitCount_95d88_25 : decode cJ13_bitCount_95d88 25 = .ok (.lload_n 0, 1) := by decide +kernel
theorem dJ13_bitCount_95d88_26 : decode cJ13_bitCount_95d88 26 = .ok (.iconst 4, 1) := by decide +kernel
theorem dJ13_bitCount_95d88_27 : decode cJ13_bitCount_95d88 27 = .ok (.lushr, 1) := by decide +kernel
theorem dJ13_bitCount_95d88_28 : decode cJ13_bitCount_95d88 28 = .ok (.ladd, 1) := by decide +kernel
theorem dJ13_bitCount_95d88_29 : decode cJ13_bitCount_95d88 29 = .ok (.ldc2_w 318, 3) := by decide +kernel
theorem dJ13_bitCount_95d88_32 : decode cJ13_bitCount_95d88 32 = .ok (.land, 1) := by decide +kernel
theorem dJ13_bitCount_95d88_33 : decode cJ13_bitCount_95d88 33 = .ok (.lstore_n 0, 1) := by decide +kernel
theorem dJ13_bitCount_95d88_34 : decode cJ13_bitCount_95d88 34 = .ok (.lload_n 0, 1) := by decide +kernel
theorem dJ13_bitCount_95d88_35 : decode cJ13_bitCount_95d88 35 = .ok (.lload_n 0, 1) := by decide +kernel
theorem dJ13_bitCount_95d88_36 : decode cJ13_bitCount_95d88 36 = .ok (.bipush 8, 2) := by decide +kernel
theorem dJ13_bitCount_95d88_38 : decode cJ13_bitCount_95d88 38 = .ok (.lushr, 1) := by decide +kernel
theorem dJ13_bitCount_95d88_39 : decode cJ13_bitCount_95d88 39 = .ok (.ladd, 1) := by decide +kernel
theorem dJ13_bitCount_95d88_40 : decode cJ13_bitCount_95d88 40 = .ok (.lstore_n 0, 1) := by decide +kernel
theorem dJ13_bitCount_95d88_41 : decode cJ13_bitCount_95d88 41 = .ok (.lload_n 0, 1) := by decide +kernel
theorem dJ13_bitCount_95d88_42 : decode cJ13_bitCount_95d88 42 = .ok (.lload_n 0, 1) := by decide +kernel
theorem dJ13_bitCount_95d88_43 : decode cJ13_bitCount_95d88 43 = .ok (.bipush 16, 2) := by decide +kernel
theorem dJ13_bitCount_95d88_45 : decode cJ13_bitCount_95d88 45 = .ok (.lushr, 1) := by decide +kernel
theorem dJ13_bitCount_95d88_46 : decode cJ13_bitCount_95d88 46 = .ok (.ladd, 1) := by decide +kernel
theorem dJ13_bitCount_95d88_47 : decode cJ13_bitCount_95d88 47 = .ok (.lstore_n 0, 1) := by decide +kernel
theorem dJ13_bitCount_95d88_48 : decode cJ13_bitCount_95d88 48 = .ok (.lload_n 0, 1) := by decide +kernel
theorem dJ13_bitCount_95d88_49 : decode cJ13_bitCount_95d88 49 = .ok (.lload_n 0, 1) := by decide +kernel
theorem dJ13_bitCount_95d88_50 : decode cJ13_bitCount_95d88 50 = .ok (.bipush 32, 2) := by decide +kernel
theorem dJ13_bitCount_95d88_52 : decode cJ13_bitCount_95d88 52 = .ok (.lushr, 1) := by decide +kernel
theorem dJ13_bitCount_95d88_53 : decode cJ13_bitCount_95d88 53 = .ok (.ladd, 1) := by decide +kernel
theorem dJ13_bitCount_95d88_54 : decode cJ13_bitCount_95d88 54 = .ok (.lstore_n 0, 1) := by decide +kernel
theorem dJ13_bitCount_95d88_55 : decode cJ13_bitCount_95d88 55 = .ok (.lload_n 0, 1) := by decide +kernel
theorem dJ13_bitCount_95d88_56 : decode cJ13_bitCount_95d88 56 = .ok (.l2i, 1) := by decide +kernel
theorem dJ13_bitCount_95d88_57 : decode cJ13_bitCount_95d88 57 = .ok (.bipush 127, 2) := by decide +kernel
theorem dJ13_bitCount_95d88_59 : decode cJ13_bitCount_95d88 59 = .ok (.iand, 1) := by decide +kernel
theorem dJ13_bitCount_95d88_60 : decode cJ13_bitCount_95d88 60 = .ok (.ireturn, 1) := by decide +kernel
def fJ13_bitCount_95d88 (a0 : Int64) : Option (Int32) :=
fd_lt ((a0 - ((fd_lushr a0 (1 : Int32)) &&& (6148914691236517205 : Int64)))) fun x1 =>
fd_lt (((x1 &&& (3689348814741910323 : Int64)) + ((fd_lushr x1 (2 : Int32)) &&& (3689348814741910323 : Int64)))) fun x2 =>
fd_lt (((x2 + (fd_lushr x2 (4 : Int32))) &&& (1085102592571150095 : Int64))) fun x3 =>
fd_lt ((x3 + (fd_lushr x3 (8 : Int32)))) fun x4 =>
fd_lt ((x4 + (fd_lushr x4 (16 : Int32)))) fun x5 =>
fd_lt ((x5 + (fd_lushr x5 (32 : Int32)))) fun x6 =>
some ((((x6).toInt32) &&& (127 : Int32)))
set_option maxRecDepth 100000 in
set_option maxHeartbeats 4000000 in
theorem sJ13_bitCount_95d88 {g : fd_G} {a0 : Int64} {h : fd_H} {r : Int32} (hf : fJ13_bitCount_95d88 a0 = some r) : fd_S g mJ13_bitCount_95d88 0 [.long a0] fd_X0 h (some (.int r)) fd_X0 h 0 0 := by
  refine fd_S.of (by decide +kernel) (Nat.le_of_ble_eq_true rfl) ?_
  unfold fJ13_bitCount_95d88 at hf
  refine fr_loc (lv' := [(0, .long a0)]) [0] rfl ?_
  refine fr_lload_n (pc := 0) dJ13_bitCount_95d88_0 0 rfl rfl ?_
  refine fr_lload_n (pc := 1) dJ13_bitCount_95d88_1 0 rfl rfl ?_
  refine fr_iconst (pc := 2) (v := (1 : Int32)) dJ13_bitCount_95d88_2 (by decide) ?_
  refine fr_lushr (pc := 3) dJ13_bitCount_95d88_3 ?_
  refine fr_ldc2 (pc := 4) (v := (6148914691236517205 : Int64)) dJ13_bitCount_95d88_4 kw_44 ?_
  refine fr_land (pc := 7) dJ13_bitCount_95d88_7 ?_
  refine fr_lsub (pc := 8) dJ13_bitCount_95d88_8 ?_
  obtain ⟨x1, ex1, hf⟩ := fd_lt_e hf
  refine fr_nml ex1 ?_
  refine fr_lstore_n (pc := 9) (lv' := [(0, .long x1)]) dJ13_bitCount_95d88_9 rfl (by decide) rfl ?_
  refine fr_lload_n (pc := 10) dJ13_bitCount_95d88_10 0 rfl rfl ?_
  refine fr_ldc2 (pc := 11) (v := (3689348814741910323 : Int64)) dJ13_bitCount_95d88_11 kw_45 ?_
  refine fr_land (pc := 14) dJ13_bitCount_95d88_14 ?_
  refine fr_lload_n (pc := 15) dJ13_bitCount_95d88_15 0 rfl rfl ?_
  refine fr_iconst (pc := 16) (v := (2 : Int32)) dJ13_bitCount_95d88_16 (by decide) ?_
  refine fr_lushr (pc := 17) dJ13_bitCount_95d88_17 ?_
  refine fr_ldc2 (pc := 18) (v := (3689348814741910323 : Int64)) dJ13_bitCount_95d88_18 kw_45 ?_
  refine fr_land (pc := 21) dJ13_bitCount_95d88_21 ?_
  refine fr_ladd (pc := 22) dJ13_bitCount_95d88_22 ?_
  obtain ⟨x2, ex2, hf⟩ := fd_lt_e hf
  refine fr_nml ex2 ?_
  refine fr_lstore_n (pc := 23) (lv' := [(0, .long x2)]) dJ13_bitCount_95d88_23 rfl (by decide) rfl ?_
  refine fr_lload_n (pc := 24) dJ13_bitCount_95d88_24 0 rfl rfl ?_
  refine fr_lload_n (pc := 25) dJ13_bitCount_95d88_25 0 rfl rfl ?_
  refine fr_iconst (pc := 26) (v := (4 : Int32)) dJ13_bitCount_95d88_26 (by decide) ?_
  refine fr_lushr (pc := 27) dJ13_bitCount_95d88_27 ?_
  refine fr_ladd (pc := 28) dJ13_bitCount_95d88_28 ?_
  refine fr_ldc2 (pc := 29) (v := (1085102592571150095 : Int64)) dJ13_bitCount_95d88_29 kw_46 ?_
  refine fr_land (pc := 32) dJ13_bitCount_95d88_32 ?_
  obtain ⟨x3, ex3, hf⟩ := fd_lt_e hf
  refine fr_nml ex3 ?_
  refine fr_lstore_n (pc := 33) (lv' := [(0, .long x3)]) dJ13_bitCount_95d88_33 rfl (by decide) rfl ?_
  refine fr_lload_n (pc := 34) dJ13_bitCount_95d88_34 0 rfl rfl ?_
  refine fr_lload_n (pc := 35) dJ13_bitCount_95d88_35 0 rfl rfl ?_
  refine fr_bipush (pc := 36) (v := (8 : Int32)) dJ13_bitCount_95d88_36 (by decide) ?_
  refine fr_lushr (pc := 38) dJ13_bitCount_95d88_38 ?_
  refine fr_ladd (pc := 39) dJ13_bitCount_95d88_39 ?_
  obtain ⟨x4, ex4, hf⟩ := fd_lt_e hf
  refine fr_nml ex4 ?_
  refine fr_lstore_n (pc := 40) (lv' := [(0, .long x4)]) dJ13_bitCount_95d88_40 rfl (by decide) rfl ?_
  refine fr_lload_n (pc := 41) dJ13_bitCount_95d88_41 0 rfl rfl ?_
  refine fr_lload_n (pc := 42) dJ13_bitCount_95d88_42 0 rfl rfl ?_
  refine fr_bipush (pc := 43) (v := (16 : Int32)) dJ13_bitCount_95d88_43 (by decide) ?_
  refine fr_lushr (pc := 45) dJ13_bitCount_95d88_45 ?_
  refine fr_ladd (pc := 46) dJ13_bitCount_95d88_46 ?_
  obtain ⟨x5, ex5, hf⟩ := fd_lt_e hf
  refine fr_nml ex5 ?_
  refine fr_lstore_n (pc := 47) (lv' := [(0, .long x5)]) dJ13_bitCount_95d88_47 rfl (by decide) rfl ?_
  refine fr_lload_n (pc := 48) dJ13_bitCount_95d88_48 0 rfl rfl ?_
  refine fr_lload_n (pc := 49) dJ13_bitCount_95d88_49 0 rfl rfl ?_
  refine fr_bipush (pc := 50) (v := (32 : Int32)) dJ13_bitCount_95d88_50 (by decide) ?_
  refine fr_lushr (pc := 52) dJ13_bitCount_95d88_52 ?_
  refine fr_ladd (pc := 53) dJ13_bitCount_95d88_53 ?_
  obtain ⟨x6, ex6, hf⟩ := fd_lt_e hf
  refine fr_nml ex6 ?_
  refine fr_lstore_n (pc := 54) (lv' := [(0, .long x6)]) dJ13_bitCount_95d88_54 rfl (by decide) rfl ?_
  refine fr_lload_n (pc := 55) dJ13_bitCount_95d88_55 0 rfl rfl ?_
  refine fr_l2i (pc := 56) dJ13_bitCount_95d88_56 ?_
  refine fr_bipush (pc := 57) (v := (127 : Int32)) dJ13_bitCount_95d88_57 (by decide) ?_
  refine fr_iand (pc := 59) dJ13_bitCount_95d88_59 ?_
  exact fr_iretP (x := (((x6).toInt32) &&& (127 : Int32))) (pc := 60) dJ13_bitCount_95d88_60 rfl hf
theorem dX0_twoFigures_0 : decode cX0_twoFigures 0 = .ok (.bipush 10, 2) := by decide +kernel
theorem dX0_twoFigures_2 : decode cX0_twoFigures 2 = .ok (.aload_n 0, 1) := by decide +kernel
theorem dX0_twoFigures_3 : decode cX0_twoFigures 3 = .ok (.getfield 30, 3) := by decide +kernel
theorem dX0_twoFigures_6 : decode cX0_twoFigures 6 = .ok (.iload_n 1, 1) := by decide +kernel
theorem dX0_twoFigures_7 : decode cX0_twoFigures 7 = .ok (.invokevirtual 35, 3) := by decide +kernel
theorem dX0_twoFigures_10 : decode cX0_twoFigures 10 = .ok (.bipush 48, 2) := by decide +kernel
theorem dX0_twoFigures_12 : decode cX0_twoFigures 12 = .ok (.isub, 1) := by decide +kernel
theorem dX0_twoFigures_13 : decode cX0_twoFigures 13 = .ok (.imul, 1) := by decide +kernel
theorem dX0_twoFigures_14 : decode cX0_twoFigures 14 = .ok (.aload_n 0, 1) := by decide +kernel
theorem dX0_twoFigures_15 : decode cX0_twoFigures 15 = .ok (.getfield 30, 3) := by decide +kernel
theorem dX0_twoFigures_18 : decode cX0_twoFigures 18 = .ok (.iload_n 1, 1) := by decide +kernel
theorem dX0_twoFigures_19 : decode cX0_twoFigures 19 = .ok (.iconst 1, 1) := by decide +kernel
theorem dX0_twoFigures_20 : decode cX0_twoFigures 20 = .ok (.iadd, 1) := by decide +kernel
theorem dX0_twoFigures_21 : decode cX0_twoFigures 21 = .ok (.invokevirtual 35, 3) := by decide +kernel
theorem dX0_twoFigures_24 : decode cX0_twoFigures 24 = .ok (.iadd, 1) := by decide +kernel
theorem dX0_twoFigures_25 : decode cX0_twoFigures 25 = .ok (.bipush 48, 2) := by decide +kernel
theorem dX0_twoFigures_27 : decode cX0_twoFigures 27 = .ok (.isub, 1) := by decide +kernel
theorem dX0_twoFigures_28 : decode cX0_twoFigures 28 = .ok (.ireturn, 1) := by decide +kernel
def fX0_twoFigures (k0 : Nat) (n0 : Nat) (a1 : Int32) (h : fd_H) : Option (Int32) :=
(fX3_at (k0 + 1) n0 a1 h).bind fun r2 =>
(fX3_at (k0 + 1) n0 (a1 + (1 : Int32)) h).bind fun r4 =>
some (((((10 : Int32) * (r2 - (48 : Int32))) + r4) - (48 : Int32)))
set_option maxRecDepth 100000 in
set_option maxHeartbeats 4000000 in
theorem sX0_twoFigures {g : fd_G} {hm : fd_H} {k0 : Nat} {n0 : Nat} {a1 : Int32} {h : fd_H} {r : Int32} (p0 : fd_isText k0 n0) (hf : fX0_twoFigures k0 n0 a1 h = some r) : fd_S g mX0_twoFigures 1 [.ref (g.2.2.2 + k0), .int a1] fd_X0 (fd_mx h hm) (some (.int r)) fd_X0 (fd_mx h hm) 0 0 := by
  refine fd_S.of (by decide +kernel) (Nat.le_of_ble_eq_true rfl) ?_
  unfold fX0_twoFigures at hf
  refine fr_loc (lv' := [(0, .ref (g.2.2.2 + k0)), (1, .int a1)]) [0, 1] rfl ?_
  refine fr_bipush (pc := 0) (v := (10 : Int32)) dX0_twoFigures_0 (by decide) ?_
  refine fr_aload_n (pc := 2) dX0_twoFigures_2 0 rfl rfl ?_
  refine fr_getR (pc := 3) dX0_twoFigures_3 fl_X0_30 p0.b p0.s rfl ?_
  refine fr_iload_n (pc := 6) dX0_twoFigures_6 1 rfl rfl ?_
  obtain ⟨r2, hc1, hf⟩ := fd_bi hf
  refine fr_callVi (pc := 7) (av := [.int a1]) dX0_twoFigures_7 yy_X3_at kw_52 p0.row.b p0.row.s rfl rfl rfl (Nat.le_of_ble_eq_true rfl) ⟨Nat.le_of_ble_eq_true rfl, Nat.le_of_ble_eq_true rfl, Nat.zero_le _, Nat.zero_le _⟩ (sX3_at p0.row hc1) ?_
  refine fr_bipush (pc := 10) (v := (48 : Int32)) dX0_twoFigures_10 (by decide) ?_
  refine fr_isub (pc := 12) dX0_twoFigures_12 ?_
  refine fr_imul (pc := 13) dX0_twoFigures_13 ?_
  refine fr_aload_n (pc := 14) dX0_twoFigures_14 0 rfl rfl ?_
  refine fr_getR (pc := 15) dX0_twoFigures_15 fl_X0_30 p0.b p0.s rfl ?_
  refine fr_iload_n (pc := 18) dX0_twoFigures_18 1 rfl rfl ?_
  refine fr_iconst (pc := 19) (v := (1 : Int32)) dX0_twoFigures_19 (by decide) ?_
  refine fr_iadd (pc := 20) dX0_twoFigures_20 ?_
  obtain ⟨r4, hc3, hf⟩ := fd_bi hf
  refine fr_callVi (pc := 21) (av := [.int (a1 + (1 : Int32))]) dX0_twoFigures_21 yy_X3_at kw_52 p0.row.b p0.row.s rfl rfl rfl (Nat.le_of_ble_eq_true rfl) ⟨Nat.le_of_ble_eq_true rfl, Nat.le_of_ble_eq_true rfl, Nat.zero_le _, Nat.zero_le _⟩ (sX3_at p0.row hc3) ?_
  refine fr_iadd (pc := 24) dX0_twoFigures_24 ?_
  refine fr_bipush (pc := 25) (v := (48 : Int32)) dX0_twoFigures_25 (by decide) ?_
  refine fr_isub (pc := 27) dX0_twoFigures_27 ?_
  exact fr_iretP (x := ((((10 : Int32) * (r2 - (48 : Int32))) + r4) - (48 : Int32))) (pc := 28) dX0_twoFigures_28 rfl hf
theorem dX0_note_0 : decode cX0_note 0 = .ok (.aload_n 0, 1) := by decide +kernel
theorem dX0_note_1 : decode cX0_note 1 = .ok (.getfield 14, 3) := by decide +kernel
theorem dX0_note_4 : decode cX0_note 4 = .ok (.iconst 5, 1) := by decide +kernel
theorem dX0_note_5 : decode cX0_note 5 = .ok (.iload_n 1, 1) := by decide +kernel
theorem dX0_note_6 : decode cX0_note 6 = .ok (.imul, 1) := by decide +kernel
theorem dX0_note_7 : decode cX0_note 7 = .ok (.iload_n 2, 1) := by decide +kernel
theorem dX0_note_8 : decode cX0_note 8 = .ok (.iadd, 1) := by decide +kernel
theorem dX0_note_9 : decode cX0_note 9 = .ok (.iload_n 3, 1) := by decide +kernel
theorem dX0_note_10 : decode cX0_note 10 = .ok (.invokevirtual 47, 3) := by decide +kernel
theorem dX0_note_13 : decode cX0_note 13 = .ok (.return_, 1) := by decide +kernel
def fX0_note (a1 : Int32) (a2 : Int32) (a3 : Int32) (h : fd_H) : Option (fd_H) :=
(fX3_set 49 45 (((5 : Int32) * a1) + a2) a3 h).bind fun h2 =>
some h2
set_option maxRecDepth 100000 in
set_option maxHeartbeats 4000000 in
theorem sX0_note {g : fd_G} {hm : fd_H} {a1 : Int32} {a2 : Int32} {a3 : Int32} {r : fd_H} {h : fd_H} (hf : fX0_note a1 a2 a3 h = some r) : fd_S g mX0_note 1 [.ref (g.2.2.2 + 48), .int a1, .int a2, .int a3] fd_X0 (fd_mx h hm) none fd_X0 (fd_mx r hm) 0 0 := by
  refine fd_S.of (by decide +kernel) (Nat.le_of_ble_eq_true rfl) ?_
  unfold fX0_note at hf
  refine fr_loc (lv' := [(0, .ref (g.2.2.2 + 48)), (1, .int a1), (2, .int a2), (3, .int a3)]) [0, 1, 2, 3] rfl ?_
  refine fr_aload_n (pc := 0) dX0_note_0 0 rfl rfl ?_
  refine fr_getR (pc := 1) dX0_note_1 fl_X0_14 (by decide) rfl rfl ?_
  refine fr_iconst (pc := 4) (v := (5 : Int32)) dX0_note_4 (by decide) ?_
  refine fr_iload_n (pc := 5) dX0_note_5 1 rfl rfl ?_
  refine fr_imul (pc := 6) dX0_note_6 ?_
  refine fr_iload_n (pc := 7) dX0_note_7 2 rfl rfl ?_
  refine fr_iadd (pc := 8) dX0_note_8 ?_
  refine fr_iload_n (pc := 9) dX0_note_9 3 rfl rfl ?_
  obtain ⟨h2, hc1, hf⟩ := fd_bi hf
  refine fr_callVv (pc := 10) (av := [.int (((5 : Int32) * a1) + a2), .int a3]) dX0_note_10 yy_X3_set kw_57 (by decide) rfl rfl rfl rfl (Nat.le_of_ble_eq_true rfl) ⟨Nat.le_of_ble_eq_true rfl, Nat.le_of_ble_eq_true rfl, Nat.zero_le _, Nat.zero_le _⟩ (sX3_set is_49 hc1) ?_
  exact vx_vretW (pc := 13) dX0_note_13 rfl hf
theorem dX0_fact_0 : decode cX0_fact 0 = .ok (.aload_n 0, 1) := by decide +kernel
theorem dX0_fact_1 : decode cX0_fact 1 = .ok (.getfield 14, 3) := by decide +kernel
theorem dX0_fact_4 : decode cX0_fact 4 = .ok (.iconst 5, 1) := by decide +kernel
theorem dX0_fact_5 : decode cX0_fact 5 = .ok (.iload_n 1, 1) := by decide +kernel
theorem dX0_fact_6 : decode cX0_fact 6 = .ok (.imul, 1) := by decide +kernel
theorem dX0_fact_7 : decode cX0_fact 7 = .ok (.iload_n 2, 1) := by decide +kernel
theorem dX0_fact_8 : decode cX0_fact 8 = .ok (.iadd, 1) := by decide +kernel
theorem dX0_fact_9 : decode cX0_fact 9 = .ok (.invokevirtual 35, 3) := by decide +kernel
theorem dX0_fact_12 : decode cX0_fact 12 = .ok (.ireturn, 1) := by decide +kernel
def fX0_fact (a1 : Int32) (a2 : Int32) (h : fd_H) : Option (Int32) :=
(fX3_at 49 45 (((5 : Int32) * a1) + a2) h).bind fun r2 =>
some (r2)
set_option maxRecDepth 100000 in
set_option maxHeartbeats 4000000 in
theorem sX0_fact {g : fd_G} {hm : fd_H} {a1 : Int32} {a2 : Int32} {h : fd_H} {r : Int32} (hf : fX0_fact a1 a2 h = some r) : fd_S g mX0_fact 1 [.ref (g.2.2.2 + 48), .int a1, .int a2] fd_X0 (fd_mx h hm) (some (.int r)) fd_X0 (fd_mx h hm) 0 0 := by
  refine fd_S.of (by decide +kernel) (Nat.le_of_ble_eq_true rfl) ?_
  unfold fX0_fact at hf
  refine fr_loc (lv' := [(0, .ref (g.2.2.2 + 48)), (1, .int a1), (2, .int a2)]) [0, 1, 2] rfl ?_
  refine fr_aload_n (pc := 0) dX0_fact_0 0 rfl rfl ?_
  refine fr_getR (pc := 1) dX0_fact_1 fl_X0_14 (by decide) rfl rfl ?_
  refine fr_iconst (pc := 4) (v := (5 : Int32)) dX0_fact_4 (by decide) ?_
  refine fr_iload_n (pc := 5) dX0_fact_5 1 rfl rfl ?_
  refine fr_imul (pc := 6) dX0_fact_6 ?_
  refine fr_iload_n (pc := 7) dX0_fact_7 2 rfl rfl ?_
  refine fr_iadd (pc := 8) dX0_fact_8 ?_
  obtain ⟨r2, hc1, hf⟩ := fd_bi hf
  refine fr_callVi (pc := 9) (av := [.int (((5 : Int32) * a1) + a2)]) dX0_fact_9 yy_X3_at kw_52 (by decide) rfl rfl rfl rfl (Nat.le_of_ble_eq_true rfl) ⟨Nat.le_of_ble_eq_true rfl, Nat.le_of_ble_eq_true rfl, Nat.zero_le _, Nat.zero_le _⟩ (sX3_at is_49 hc1) ?_
  exact fr_iretP (x := r2) (pc := 12) dX0_fact_12 rfl hf
theorem dX1_add_0 : decode cX1_add 0 = .ok (.aload_n 0, 1) := by decide +kernel
theorem dX1_add_1 : decode cX1_add 1 = .ok (.getfield 26, 3) := by decide +kernel
theorem dX1_add_4 : decode cX1_add 4 = .ok (.bipush 8, 2) := by decide +kernel
theorem dX1_add_6 : decode cX1_add 6 = .ok (.if_icmp .lt 5, 3) := by decide +kernel
theorem dX1_add_9 : decode cX1_add 9 = .ok (.iconst 0, 1) := by decide +kernel
theorem dX1_add_10 : decode cX1_add 10 = .ok (.ireturn, 1) := by decide +kernel
theorem dX1_add_11 : decode cX1_add 11 = .ok (.aload_n 0, 1) := by decide +kernel
theorem dX1_add_12 : decode cX1_add 12 = .ok (.getfield 14, 3) := by decide +kernel
theorem dX1_add_15 : decode cX1_add 15 = .ok (.aload_n 0, 1) := by decide +kernel
theorem dX1_add_16 : decode cX1_add 16 = .ok (.getfield 26, 3) := by decide +kernel
theorem dX1_add_19 : decode cX1_add 19 = .ok (.iload_n 1, 1) := by decide +kernel
theorem dX1_add_20 : decode cX1_add 20 = .ok (.invokevirtual 30, 3) := by decide +kernel
theorem dX1_add_23 : decode cX1_add 23 = .ok (.aload_n 0, 1) := by decide +kernel
theorem dX1_add_24 : decode cX1_add 24 = .ok (.getfield 20, 3) := by decide +kernel
theorem dX1_add_27 : decode cX1_add 27 = .ok (.aload_n 0, 1) := by decide +kernel
theorem dX1_add_28 : decode cX1_add 28 = .ok (.getfield 26, 3) := by decide +kernel
theorem dX1_add_31 : decode cX1_add 31 = .ok (.iload_n 2, 1) := by decide +kernel
theorem dX1_add_32 : decode cX1_add 32 = .ok (.invokevirtual 30, 3) := by decide +kernel
theorem dX1_add_35 : decode cX1_add 35 = .ok (.aload_n 0, 1) := by decide +kernel
theorem dX1_add_36 : decode cX1_add 36 = .ok (.getfield 23, 3) := by decide +kernel
theorem dX1_add_39 : decode cX1_add 39 = .ok (.aload_n 0, 1) := by decide +kernel
theorem dX1_add_40 : decode cX1_add 40 = .ok (.getfield 26, 3) := by decide +kernel
theorem dX1_add_43 : decode cX1_add 43 = .ok (.iload_n 3, 1) := by decide +kernel
theorem dX1_add_44 : decode cX1_add 44 = .ok (.invokevirtual 30, 3) := by decide +kernel
theorem dX1_add_47 : decode cX1_add 47 = .ok (.aload_n 0, 1) := by decide +kernel
theorem dX1_add_48 : decode cX1_add 48 = .ok (.dup, 1) := by decide +kernel
theorem dX1_add_49 : decode cX1_add 49 = .ok (.getfield 26, 3) := by decide +kernel
theorem dX1_add_52 : decode cX1_add 52 = .ok (.iconst 1, 1) := by decide +kernel
theorem dX1_add_53 : decode cX1_add 53 = .ok (.iadd, 1) := by decide +kernel
theorem dX1_add_54 : decode cX1_add 54 = .ok (.putfield 26, 3) := by decide +kernel
theorem dX1_add_57 : decode cX1_add 57 = .ok (.iconst 1, 1) := by decide +kernel
theorem dX1_add_58 : decode cX1_add 58 = .ok (.ireturn, 1) := by decide +kernel
def fX1_add (k : Nat) (a1 : Int32) (a2 : Int32) (a3 : Int32) (h : fd_H) : Option (Bool × fd_H) :=
if (h.1 k 3) < (8 : Int32) then (
(fX3_set (k + 1) 8 (h.1 k 3) a1 h).bind fun h3 =>
(fX3_set (k + 3) 8 (h3.1 k 3) a2 h3).bind fun h5 =>
(fX3_set (k + 5) 8 (h5.1 k 3) a3 h5).bind fun h7 =>
fd_lt (fd_ui h7 k 3 ((h7.1 k 3) + (1 : Int32))) fun h8 =>
some (true, h8))
else (
some (false, h))
set_option maxRecDepth 100000 in
set_option maxHeartbeats 4000000 in
theorem sX1_add {g : fd_G} {hm : fd_H} {k : Nat} {a1 : Int32} {a2 : Int32} {a3 : Int32} {r : Bool × fd_H} (p0 : fd_isMarks k) {h : fd_H} (hf : fX1_add k a1 a2 a3 h = some r) : fd_S g mX1_add 1 [.ref (g.2.2.2 + k), .int a1, .int a2, .int a3] fd_X0 (fd_mx h hm) (some (.int (fd_b r.1))) fd_X0 (fd_mx r.2 hm) 0 0 := by
  refine fd_S.of (by decide +kernel) (Nat.le_of_ble_eq_true rfl) ?_
  unfold fX1_add at hf
  refine fr_loc (lv' := [(0, .ref (g.2.2.2 + k)), (1, .int a1), (2, .int a2), (3, .int a3)]) [0, 1, 2, 3] rfl ?_
  refine fr_aload_n (pc := 0) dX1_add_0 0 rfl rfl ?_
  refine vx_getI (pc := 1) dX1_add_1 fl_X1_26 p0.b p0.x p0.s rfl ?_
  refine fr_bipush (pc := 4) (v := (8 : Int32)) dX1_add_4 (by decide) ?_
  refine fr_icmp_lt (pc := 6) 11 dX1_add_6 (by decide) (fun c1 => ?_) (fun c1 => ?_)
  · have hf := fd_t c1 hf
    refine fr_aload_n (pc := 11) dX1_add_11 0 rfl rfl ?_
    refine fr_getR (pc := 12) dX1_add_12 fl_X1_14 p0.b p0.s rfl ?_
    refine fr_aload_n (pc := 15) dX1_add_15 0 rfl rfl ?_
    refine vx_getI (pc := 16) dX1_add_16 fl_X1_26 p0.b p0.x p0.s rfl ?_
    refine fr_iload_n (pc := 19) dX1_add_19 1 rfl rfl ?_
    obtain ⟨h3, hc2, hf⟩ := fd_bi hf
    refine fr_callVv (pc := 20) (av := [.int (h.1 k 3), .int a1]) dX1_add_20 yy_X3_set kw_60 p0.r1.b p0.r1.s rfl rfl rfl (Nat.le_of_ble_eq_true rfl) ⟨Nat.le_of_ble_eq_true rfl, Nat.le_of_ble_eq_true rfl, Nat.zero_le _, Nat.zero_le _⟩ (sX3_set p0.r1 hc2) ?_
    refine fr_aload_n (pc := 23) dX1_add_23 0 rfl rfl ?_
    refine fr_getR (pc := 24) dX1_add_24 fl_X1_20 p0.b p0.s rfl ?_
    refine fr_aload_n (pc := 27) dX1_add_27 0 rfl rfl ?_
    refine vx_getI (pc := 28) dX1_add_28 fl_X1_26 p0.b p0.x p0.s rfl ?_
    refine fr_iload_n (pc := 31) dX1_add_31 2 rfl rfl ?_
    obtain ⟨h5, hc4, hf⟩ := fd_bi hf
    refine fr_callVv (pc := 32) (av := [.int (h3.1 k 3), .int a2]) dX1_add_32 yy_X3_set kw_60 p0.r2.b p0.r2.s rfl rfl rfl (Nat.le_of_ble_eq_true rfl) ⟨Nat.le_of_ble_eq_true rfl, Nat.le_of_ble_eq_true rfl, Nat.zero_le _, Nat.zero_le _⟩ (sX3_set p0.r2 hc4) ?_
    refine fr_aload_n (pc := 35) dX1_add_35 0 rfl rfl ?_
    refine fr_getR (pc := 36) dX1_add_36 fl_X1_23 p0.b p0.s rfl ?_
    refine fr_aload_n (pc := 39) dX1_add_39 0 rfl rfl ?_
    refine vx_getI (pc := 40) dX1_add_40 fl_X1_26 p0.b p0.x p0.s rfl ?_
    refine fr_iload_n (pc := 43) dX1_add_43 3 rfl rfl ?_
    obtain ⟨h7, hc6, hf⟩ := fd_bi hf
    refine fr_callVv (pc := 44) (av := [.int (h5.1 k 3), .int a3]) dX1_add_44 yy_X3_set kw_60 p0.r3.b p0.r3.s rfl rfl rfl (Nat.le_of_ble_eq_true rfl) ⟨Nat.le_of_ble_eq_true rfl, Nat.le_of_ble_eq_true rfl, Nat.zero_le _, Nat.zero_le _⟩ (sX3_set p0.r3 hc6) ?_
    refine fr_aload_n (pc := 47) dX1_add_47 0 rfl rfl ?_
    refine fr_dup (pc := 48) dX1_add_48 rfl ?_
    refine vx_getI (pc := 49) dX1_add_49 fl_X1_26 p0.b p0.x p0.s rfl ?_
    refine fr_iconst (pc := 52) (v := (1 : Int32)) dX1_add_52 (by decide) ?_
    refine fr_iadd (pc := 53) dX1_add_53 ?_
    obtain ⟨h8, eh8, hf⟩ := fd_lt_e hf
    refine vx_putI (pc := 54) dX1_add_54 fl_X1_26 ft_X1_3 p0.b p0.x p0.s rfl eh8 ?_
    refine fr_iconst (pc := 57) (v := (1 : Int32)) dX1_add_57 (by decide) ?_
    exact vx_zretW (x := true) (pc := 58) dX1_add_58 rfl hf
  · have hf := fd_f c1 hf
    refine fr_iconst (pc := 9) (v := (0 : Int32)) dX1_add_9 (by decide) ?_
    exact vx_zretW (x := false) (pc := 10) dX1_add_10 rfl hf
theorem dX1_nightsAt_0 : decode cX1_nightsAt 0 = .ok (.lconst 0, 1) := by decide +kernel
theorem dX1_nightsAt_1 : decode cX1_nightsAt 1 = .ok (.lstore_n 3, 1) := by decide +kernel
theorem dX1_nightsAt_2 : decode cX1_nightsAt 2 = .ok (.iconst 0, 1) := by decide +kernel
theorem dX1_nightsAt_3 : decode cX1_nightsAt 3 = .ok (.istore 5, 2) := by decide +kernel
theorem dX1_nightsAt_5 : decode cX1_nightsAt 5 = .ok (.iload 5, 2) := by decide +kernel
theorem dX1_nightsAt_7 : decode cX1_nightsAt 7 = .ok (.aload_n 0, 1) := by decide +kernel
theorem dX1_nightsAt_8 : decode cX1_nightsAt 8 = .ok (.getfield 26, 3) := by decide +kernel
theorem dX1_nightsAt_11 : decode cX1_nightsAt 11 = .ok (.if_icmp .ge 42, 3) := by decide +kernel
theorem dX1_nightsAt_14 : decode cX1_nightsAt 14 = .ok (.iload 5, 2) := by decide +kernel
theorem dX1_nightsAt_16 : decode cX1_nightsAt 16 = .ok (.iload_n 2, 1) := by decide +kernel
theorem dX1_nightsAt_17 : decode cX1_nightsAt 17 = .ok (.if_icmp .eq 30, 3) := by decide +kernel
theorem dX1_nightsAt_20 : decode cX1_nightsAt 20 = .ok (.aload_n 0, 1) := by decide +kernel
theorem dX1_nightsAt_21 : decode cX1_nightsAt 21 = .ok (.getfield 20, 3) := by decide +kernel
theorem dX1_nightsAt_24 : decode cX1_nightsAt 24 = .ok (.iload 5, 2) := by decide +kernel
theorem dX1_nightsAt_26 : decode cX1_nightsAt 26 = .ok (.invokevirtual 34, 3) := by decide +kernel
theorem dX1_nightsAt_29 : decode cX1_nightsAt 29 = .ok (.iload_n 1, 1) := by decide +kernel
theorem dX1_nightsAt_30 : decode cX1_nightsAt 30 = .ok (.if_icmp .ne 17, 3) := by decide +kernel
theorem dX1_nightsAt_33 : decode cX1_nightsAt 33 = .ok (.lload_n 3, 1) := by decide +kernel
theorem dX1_nightsAt_34 : decode cX1_nightsAt 34 = .ok (.lconst 1, 1) := by decide +kernel
theorem dX1_nightsAt_35 : decode cX1_nightsAt 35 = .ok (.aload_n 0, 1) := by decide +kernel
theorem dX1_nightsAt_36 : decode cX1_nightsAt 36 = .ok (.getfield 14, 3) := by decide +kernel
theorem dX1_nightsAt_39 : decode cX1_nightsAt 39 = .ok (.iload 5, 2) := by decide +kernel
theorem dX1_nightsAt_41 : decode cX1_nightsAt 41 = .ok (.invokevirtual 34, 3) := by decide +kernel
theorem dX1_nightsAt_44 : decode cX1_nightsAt 44 = .ok (.lshl, 1) := by decide +kernel
theorem dX1_nightsAt_45 : decode cX1_nightsAt 45 = .ok (.lor, 1) := by decide +kernel
theorem dX1_nightsAt_46 : decode cX1_nightsAt 46 = .ok (.lstore_n 3, 1) := by decide +kernel
theorem dX1_nightsAt_47 : decode cX1_nightsAt 47 = .ok (.iinc 5 1, 3) := by decide +kernel
theorem dX1_nightsAt_50 : decode cX1_nightsAt 50 = .ok (.goto (-45), 3) := by decide +kernel
theorem dX1_nightsAt_53 : decode cX1_nightsAt 53 = .ok (.lload_n 3, 1) := by decide +kernel
theorem dX1_nightsAt_54 : decode cX1_nightsAt 54 = .ok (.lreturn, 1) := by decide +kernel
def fX1_nightsAt_L5 (k : Nat) (a1 : Int32) (a2 : Int32) (h : fd_H) : Nat → Int64 → Int32 → Option (Int64)
  | 0 => fun _ _ => none
  | n + 1 => fun v3 v5 =>
if (h.1 k 3) ≤ v5 then (
some (v3))
else (
if v5 = a2 then (
fX1_nightsAt_L5 k a1 a2 h n v3 (v5 + (1 : Int32)))
else (
(fX3_at (k + 3) 8 v5 h).bind fun r4 =>
if r4 = a1 then (
(fX3_at (k + 1) 8 v5 h).bind fun r7 =>
fd_lt ((v3 ||| (fd_lshl (1 : Int64) r7))) fun x8 =>
fX1_nightsAt_L5 k a1 a2 h n x8 (v5 + (1 : Int32)))
else (
fX1_nightsAt_L5 k a1 a2 h n v3 (v5 + (1 : Int32)))))
set_option maxRecDepth 100000 in
set_option maxHeartbeats 4000000 in
theorem sX1_nightsAt_L5 {g : fd_G} {hm : fd_H} {k : Nat} {a1 : Int32} {a2 : Int32} {h : fd_H} {r : Int64} (p0 : fd_isMarks k) : ∀ (n : Nat) (v3 : Int64) (v5 : Int32), fX1_nightsAt_L5 k a1 a2 h n v3 v5 = some r → fd_A g mX1_nightsAt fd_E (fd_rm 1 0 0) (fd_Q g (some (.long r)) fd_X0 (fd_mx h hm) 0 0) 5 [(0, .ref (g.2.2.2 + k)), (1, .int a1), (2, .int a2), (3, .long v3), (5, .int v5)] [] fd_X0 (fd_mx h hm) 0 0 := by
  intro n
  induction n with
  | zero =>
    intro _ _ hf
    cases hf
  | succ n ih =>
    intro v3 v5 hf
    rw [fX1_nightsAt_L5] at hf
    refine fr_iload (pc := 5) dX1_nightsAt_5 4 rfl ?_
    refine fr_aload_n (pc := 7) dX1_nightsAt_7 0 rfl rfl ?_
    refine vx_getI (pc := 8) dX1_nightsAt_8 fl_X1_26 p0.b p0.x p0.s rfl ?_
    refine fr_icmp_ge (pc := 11) 53 dX1_nightsAt_11 (by decide) (fun c1 => ?_) (fun c1 => ?_)
    · have hf := fd_t c1 hf
      refine fr_lload_n (pc := 53) dX1_nightsAt_53 3 rfl rfl ?_
      exact fr_lretP (x := v3) (pc := 54) dX1_nightsAt_54 rfl hf
    · have hf := fd_f c1 hf
      refine fr_iload (pc := 14) dX1_nightsAt_14 4 rfl ?_
      refine fr_iload_n (pc := 16) dX1_nightsAt_16 2 rfl rfl ?_
      refine fr_icmp_eq (pc := 17) 47 dX1_nightsAt_17 (by decide) (fun c2 => ?_) (fun c2 => ?_)
      · have hf := fd_t c2 hf
        refine fr_iinc (pc := 47) (v := (v5 + (1 : Int32))) (lv' := [(5, .int (v5 + (1 : Int32))), (0, .ref (g.2.2.2 + k)), (1, .int a1), (2, .int a2), (3, .long v3)]) dX1_nightsAt_47 4 rfl rfl (by decide) rfl ?_
        refine fr_goto (pc := 50) 5 dX1_nightsAt_50 (by decide) ?_
        refine fr_loc (lv' := [(0, .ref (g.2.2.2 + k)), (1, .int a1), (2, .int a2), (3, .long v3), (5, .int (v5 + (1 : Int32)))]) [1, 2, 3, 4, 0] rfl ?_
        exact ih _ _ hf
      · have hf := fd_f c2 hf
        refine fr_aload_n (pc := 20) dX1_nightsAt_20 0 rfl rfl ?_
        refine fr_getR (pc := 21) dX1_nightsAt_21 fl_X1_20 p0.b p0.s rfl ?_
        refine fr_iload (pc := 24) dX1_nightsAt_24 4 rfl ?_
        obtain ⟨r4, hc3, hf⟩ := fd_bi hf
        refine fr_callVi (pc := 26) (av := [.int v5]) dX1_nightsAt_26 yy_X3_at kw_63 p0.r2.b p0.r2.s rfl rfl rfl (Nat.le_of_ble_eq_true rfl) ⟨Nat.le_of_ble_eq_true rfl, Nat.le_of_ble_eq_true rfl, Nat.zero_le _, Nat.zero_le _⟩ (sX3_at p0.r2 hc3) ?_
        refine fr_iload_n (pc := 29) dX1_nightsAt_29 1 rfl rfl ?_
        refine fr_icmp_ne (pc := 30) 47 dX1_nightsAt_30 (by decide) (fun c5 => ?_) (fun c5 => ?_)
        · have hf := fd_f c5 hf
          refine fr_iinc (pc := 47) (v := (v5 + (1 : Int32))) (lv' := [(5, .int (v5 + (1 : Int32))), (0, .ref (g.2.2.2 + k)), (1, .int a1), (2, .int a2), (3, .long v3)]) dX1_nightsAt_47 4 rfl rfl (by decide) rfl ?_
          refine fr_goto (pc := 50) 5 dX1_nightsAt_50 (by decide) ?_
          refine fr_loc (lv' := [(0, .ref (g.2.2.2 + k)), (1, .int a1), (2, .int a2), (3, .long v3), (5, .int (v5 + (1 : Int32)))]) [1, 2, 3, 4, 0] rfl ?_
          exact ih _ _ hf
        · have hf := fd_t c5 hf
          refine fr_lload_n (pc := 33) dX1_nightsAt_33 3 rfl rfl ?_
          refine fr_lconst (pc := 34) (v := (1 : Int64)) dX1_nightsAt_34 (by decide) ?_
          refine fr_aload_n (pc := 35) dX1_nightsAt_35 0 rfl rfl ?_
          refine fr_getR (pc := 36) dX1_nightsAt_36 fl_X1_14 p0.b p0.s rfl ?_
          refine fr_iload (pc := 39) dX1_nightsAt_39 4 rfl ?_
          obtain ⟨r7, hc6, hf⟩ := fd_bi hf
          refine fr_callVi (pc := 41) (av := [.int v5]) dX1_nightsAt_41 yy_X3_at kw_63 p0.r1.b p0.r1.s rfl rfl rfl (Nat.le_of_ble_eq_true rfl) ⟨Nat.le_of_ble_eq_true rfl, Nat.le_of_ble_eq_true rfl, Nat.zero_le _, Nat.zero_le _⟩ (sX3_at p0.r1 hc6) ?_
          refine fr_lshl (pc := 44) dX1_nightsAt_44 ?_
          refine fr_lor (pc := 45) dX1_nightsAt_45 ?_
          obtain ⟨x8, ex8, hf⟩ := fd_lt_e hf
          refine fr_nml ex8 ?_
          refine fr_lstore_n (pc := 46) (lv' := [(3, .long x8), (0, .ref (g.2.2.2 + k)), (1, .int a1), (2, .int a2), (5, .int v5)]) dX1_nightsAt_46 rfl (by decide) rfl ?_
          refine fr_iinc (pc := 47) (v := (v5 + (1 : Int32))) (lv' := [(5, .int (v5 + (1 : Int32))), (3, .long x8), (0, .ref (g.2.2.2 + k)), (1, .int a1), (2, .int a2)]) dX1_nightsAt_47 4 rfl rfl (by decide) rfl ?_
          refine fr_goto (pc := 50) 5 dX1_nightsAt_50 (by decide) ?_
          refine fr_loc (lv' := [(0, .ref (g.2.2.2 + k)), (1, .int a1), (2, .int a2), (3, .long x8), (5, .int (v5 + (1 : Int32)))]) [2, 3, 4, 1, 0] rfl ?_
          exact ih _ _ hf
def fX1_nightsAt (k : Nat) (a1 : Int32) (a2 : Int32) (h : fd_H) : Option (Int64) :=
fX1_nightsAt_L5 k a1 a2 h fd_fu (0 : Int64) (0 : Int32)
set_option maxRecDepth 100000 in
set_option maxHeartbeats 4000000 in
theorem sX1_nightsAt {g : fd_G} {hm : fd_H} {k : Nat} {a1 : Int32} {a2 : Int32} {h : fd_H} {r : Int64} (p0 : fd_isMarks k) (hf : fX1_nightsAt k a1 a2 h = some r) : fd_S g mX1_nightsAt 1 [.ref (g.2.2.2 + k), .int a1, .int a2] fd_X0 (fd_mx h hm) (some (.long r)) fd_X0 (fd_mx h hm) 0 0 := by
  refine fd_S.of (by decide +kernel) (Nat.le_of_ble_eq_true rfl) ?_
  unfold fX1_nightsAt at hf
  refine fr_loc (lv' := [(0, .ref (g.2.2.2 + k)), (1, .int a1), (2, .int a2)]) [0, 1, 2] rfl ?_
  refine fr_lconst (pc := 0) (v := (0 : Int64)) dX1_nightsAt_0 (by decide) ?_
  refine fr_lstore_n (pc := 1) (lv' := [(3, .long (0 : Int64)), (0, .ref (g.2.2.2 + k)), (1, .int a1), (2, .int a2)]) dX1_nightsAt_1 rfl (by decide) rfl ?_
  refine fr_iconst (pc := 2) (v := (0 : Int32)) dX1_nightsAt_2 (by decide) ?_
  refine fr_istore (pc := 3) (lv' := [(5, .int (0 : Int32)), (3, .long (0 : Int64)), (0, .ref (g.2.2.2 + k)), (1, .int a1), (2, .int a2)]) dX1_nightsAt_3 (by decide) rfl ?_
  refine fr_loc (lv' := [(0, .ref (g.2.2.2 + k)), (1, .int a1), (2, .int a2), (3, .long (0 : Int64)), (5, .int (0 : Int32))]) [2, 3, 4, 1, 0] rfl ?_
  exact sX1_nightsAt_L5 p0 _  _ _ hf
theorem dX2_parse_0 : decode cX2_parse 0 = .ok (.aload_n 0, 1) := by decide +kernel
theorem dX2_parse_1 : decode cX2_parse 1 = .ok (.iload_n 2, 1) := by decide +kernel
theorem dX2_parse_2 : decode cX2_parse 2 = .ok (.iconst 1, 1) := by decide +kernel
theorem dX2_parse_3 : decode cX2_parse 3 = .ok (.iadd, 1) := by decide +kernel
theorem dX2_parse_4 : decode cX2_parse 4 = .ok (.iconst 3, 1) := by decide +kernel
theorem dX2_parse_5 : decode cX2_parse 5 = .ok (.idiv, 1) := by decide +kernel
theorem dX2_parse_6 : decode cX2_parse 6 = .ok (.bipush 8, 2) := by decide +kernel
theorem dX2_parse_8 : decode cX2_parse 8 = .ok (.invokestatic 30, 3) := by decide +kernel
theorem dX2_parse_11 : decode cX2_parse 11 = .ok (.putfield 26, 3) := by decide +kernel
theorem dX2_parse_14 : decode cX2_parse 14 = .ok (.iconst 0, 1) := by decide +kernel
theorem dX2_parse_15 : decode cX2_parse 15 = .ok (.istore_n 3, 1) := by decide +kernel
theorem dX2_parse_16 : decode cX2_parse 16 = .ok (.iload_n 3, 1) := by decide +kernel
theorem dX2_parse_17 : decode cX2_parse 17 = .ok (.aload_n 0, 1) := by decide +kernel
theorem dX2_parse_18 : decode cX2_parse 18 = .ok (.getfield 26, 3) := by decide +kernel
theorem dX2_parse_21 : decode cX2_parse 21 = .ok (.if_icmp .ge 81, 3) := by decide +kernel
theorem dX2_parse_24 : decode cX2_parse 24 = .ok (.aload_n 0, 1) := by decide +kernel
theorem dX2_parse_25 : decode cX2_parse 25 = .ok (.getfield 14, 3) := by decide +kernel
theorem dX2_parse_28 : decode cX2_parse 28 = .ok (.iload_n 3, 1) := by decide +kernel
theorem dX2_parse_29 : decode cX2_parse 29 = .ok (.aload_n 1, 1) := by decide +kernel
theorem dX2_parse_30 : decode cX2_parse 30 = .ok (.getfield 36, 3) := by decide +kernel
theorem dX2_parse_33 : decode cX2_parse 33 = .ok (.iconst 3, 1) := by decide +kernel
theorem dX2_parse_34 : decode cX2_parse 34 = .ok (.iload_n 3, 1) := by decide +kernel
theorem dX2_parse_35 : decode cX2_parse 35 = .ok (.imul, 1) := by decide +kernel
theorem dX2_parse_36 : decode cX2_parse 36 = .ok (.invokevirtual 41, 3) := by decide +kernel
theorem dX2_parse_39 : decode cX2_parse 39 = .ok (.bipush 48, 2) := by decide +kernel
theorem dX2_parse_41 : decode cX2_parse 41 = .ok (.isub, 1) := by decide +kernel
theorem dX2_parse_42 : decode cX2_parse 42 = .ok (.invokevirtual 45, 3) := by decide +kernel
theorem dX2_parse_45 : decode cX2_parse 45 = .ok (.aload_n 0, 1) := by decide +kernel
theorem dX2_parse_46 : decode cX2_parse 46 = .ok (.getfield 20, 3) := by decide +kernel
theorem dX2_parse_49 : decode cX2_parse 49 = .ok (.iload_n 3, 1) := by decide +kernel
theorem dX2_parse_50 : decode cX2_parse 50 = .ok (.aload_n 1, 1) := by decide +kernel
theorem dX2_parse_51 : decode cX2_parse 51 = .ok (.getfield 36, 3) := by decide +kernel
theorem dX2_parse_54 : decode cX2_parse 54 = .ok (.iconst 3, 1) := by decide +kernel
theorem dX2_parse_55 : decode cX2_parse 55 = .ok (.iload_n 3, 1) := by decide +kernel
theorem dX2_parse_56 : decode cX2_parse 56 = .ok (.imul, 1) := by decide +kernel
theorem dX2_parse_57 : decode cX2_parse 57 = .ok (.iconst 1, 1) := by decide +kernel
theorem dX2_parse_58 : decode cX2_parse 58 = .ok (.iadd, 1) := by decide +kernel
theorem dX2_parse_59 : decode cX2_parse 59 = .ok (.invokevirtual 41, 3) := by decide +kernel
theorem dX2_parse_62 : decode cX2_parse 62 = .ok (.invokestatic 49, 3) := by decide +kernel
theorem dX2_parse_65 : decode cX2_parse 65 = .ok (.invokevirtual 45, 3) := by decide +kernel
theorem dX2_parse_68 : decode cX2_parse 68 = .ok (.aload_n 0, 1) := by decide +kernel
theorem dX2_parse_69 : decode cX2_parse 69 = .ok (.getfield 23, 3) := by decide +kernel
theorem dX2_parse_72 : decode cX2_parse 72 = .ok (.iload_n 3, 1) := by decide +kernel
theorem dX2_parse_73 : decode cX2_parse 73 = .ok (.aload_n 0, 1) := by decide +kernel
theorem dX2_parse_74 : decode cX2_parse 74 = .ok (.getfield 20, 3) := by decide +kernel
theorem dX2_parse_77 : decode cX2_parse 77 = .ok (.iload_n 3, 1) := by decide +kernel
theorem dX2_parse_78 : decode cX2_parse 78 = .ok (.invokevirtual 41, 3) := by decide +kernel
theorem dX2_parse_81 : decode cX2_parse 81 = .ok (.invokestatic 52, 3) := by decide +kernel
theorem dX2_parse_84 : decode cX2_parse 84 = .ok (.aload_n 0, 1) := by decide +kernel
theorem dX2_parse_85 : decode cX2_parse 85 = .ok (.getfield 14, 3) := by decide +kernel
theorem dX2_parse_88 : decode cX2_parse 88 = .ok (.iload_n 3, 1) := by decide +kernel
theorem dX2_parse_89 : decode cX2_parse 89 = .ok (.invokevirtual 41, 3) := by decide +kernel
theorem dX2_parse_92 : decode cX2_parse 92 = .ok (.isub, 1) := by decide +kernel
theorem dX2_parse_93 : decode cX2_parse 93 = .ok (.invokevirtual 45, 3) := by decide +kernel
theorem dX2_parse_96 : decode cX2_parse 96 = .ok (.iinc 3 1, 3) := by decide +kernel
theorem dX2_parse_99 : decode cX2_parse 99 = .ok (.goto (-83), 3) := by decide +kernel
theorem dX2_parse_102 : decode cX2_parse 102 = .ok (.return_, 1) := by decide +kernel
def fX2_parse_L16 (k1 : Nat) (n1 : Nat) (a2 : Int32) : Nat → Int32 → fd_H → Option (fd_H)
  | 0 => fun _ _ => none
  | n + 1 => fun v3 h =>
if (h.1 12 3) ≤ v3 then (
some h)
else (
(fX3_at (k1 + 1) n1 ((3 : Int32) * v3) h).bind fun r3 =>
(fX3_set 13 8 v3 (r3 - (48 : Int32)) h).bind fun h5 =>
(fX3_at (k1 + 1) n1 (((3 : Int32) * v3) + (1 : Int32)) h5).bind fun r7 =>
(fX8_kindOf r7).bind fun r9 =>
(fX3_set 15 8 v3 r9 h5).bind fun h11 =>
(fX3_at 15 8 v3 h11).bind fun r13 =>
(fX2_liftOf r13).bind fun r15 =>
(fX3_at 13 8 v3 h11).bind fun r17 =>
(fX3_set 17 8 v3 (r15 - r17) h11).bind fun h19 =>
fX2_parse_L16 k1 n1 a2 n (v3 + (1 : Int32)) h19)
set_option maxRecDepth 100000 in
set_option maxHeartbeats 4000000 in
theorem sX2_parse_L16 {g : fd_G} {hm : fd_H} {k1 : Nat} {n1 : Nat} {a2 : Int32} {r : fd_H} (p1 : fd_isText k1 n1) : ∀ (n : Nat) (v3 : Int32) (h : fd_H), fX2_parse_L16 k1 n1 a2 n v3 h = some r → fd_A g mX2_parse fd_E (fd_rm 1 0 0) (fd_Q g none fd_X0 (fd_mx r hm) 0 0) 16 [(0, .ref (g.2.2.2 + 12)), (1, .ref (g.2.2.2 + k1)), (3, .int v3)] [] fd_X0 (fd_mx h hm) 0 0 := by
  intro n
  induction n with
  | zero =>
    intro _ _ hf
    cases hf
  | succ n ih =>
    intro v3 h hf
    rw [fX2_parse_L16] at hf
    refine fr_iload_n (pc := 16) dX2_parse_16 2 rfl rfl ?_
    refine fr_aload_n (pc := 17) dX2_parse_17 0 rfl rfl ?_
    refine vx_getI (pc := 18) dX2_parse_18 fl_X2_26 (by decide) (by decide) rfl rfl ?_
    refine fr_icmp_ge (pc := 21) 102 dX2_parse_21 (by decide) (fun c1 => ?_) (fun c1 => ?_)
    · have hf := fd_t c1 hf
      exact vx_vretW (pc := 102) dX2_parse_102 rfl hf
    · have hf := fd_f c1 hf
      refine fr_aload_n (pc := 24) dX2_parse_24 0 rfl rfl ?_
      refine fr_getR (pc := 25) dX2_parse_25 fl_X2_14 (by decide) rfl rfl ?_
      refine fr_iload_n (pc := 28) dX2_parse_28 2 rfl rfl ?_
      refine fr_aload_n (pc := 29) dX2_parse_29 1 rfl rfl ?_
      refine fr_getR (pc := 30) dX2_parse_30 fl_X2_36 p1.b p1.s rfl ?_
      refine fr_iconst (pc := 33) (v := (3 : Int32)) dX2_parse_33 (by decide) ?_
      refine fr_iload_n (pc := 34) dX2_parse_34 2 rfl rfl ?_
      refine fr_imul (pc := 35) dX2_parse_35 ?_
      obtain ⟨r3, hc2, hf⟩ := fd_bi hf
      refine fr_callVi (pc := 36) (av := [.int ((3 : Int32) * v3)]) dX2_parse_36 yy_X3_at kw_70 p1.row.b p1.row.s rfl rfl rfl (Nat.le_of_ble_eq_true rfl) ⟨Nat.le_of_ble_eq_true rfl, Nat.le_of_ble_eq_true rfl, Nat.zero_le _, Nat.zero_le _⟩ (sX3_at p1.row hc2) ?_
      refine fr_bipush (pc := 39) (v := (48 : Int32)) dX2_parse_39 (by decide) ?_
      refine fr_isub (pc := 41) dX2_parse_41 ?_
      obtain ⟨h5, hc4, hf⟩ := fd_bi hf
      refine fr_callVv (pc := 42) (av := [.int v3, .int (r3 - (48 : Int32))]) dX2_parse_42 yy_X3_set kw_71 (by decide) rfl rfl rfl rfl (Nat.le_of_ble_eq_true rfl) ⟨Nat.le_of_ble_eq_true rfl, Nat.le_of_ble_eq_true rfl, Nat.zero_le _, Nat.zero_le _⟩ (sX3_set is_13 hc4) ?_
      refine fr_aload_n (pc := 45) dX2_parse_45 0 rfl rfl ?_
      refine fr_getR (pc := 46) dX2_parse_46 fl_X2_20 (by decide) rfl rfl ?_
      refine fr_iload_n (pc := 49) dX2_parse_49 2 rfl rfl ?_
      refine fr_aload_n (pc := 50) dX2_parse_50 1 rfl rfl ?_
      refine fr_getR (pc := 51) dX2_parse_51 fl_X2_36 p1.b p1.s rfl ?_
      refine fr_iconst (pc := 54) (v := (3 : Int32)) dX2_parse_54 (by decide) ?_
      refine fr_iload_n (pc := 55) dX2_parse_55 2 rfl rfl ?_
      refine fr_imul (pc := 56) dX2_parse_56 ?_
      refine fr_iconst (pc := 57) (v := (1 : Int32)) dX2_parse_57 (by decide) ?_
      refine fr_iadd (pc := 58) dX2_parse_58 ?_
      obtain ⟨r7, hc6, hf⟩ := fd_bi hf
      refine fr_callVi (pc := 59) (av := [.int (((3 : Int32) * v3) + (1 : Int32))]) dX2_parse_59 yy_X3_at kw_70 p1.row.b p1.row.s rfl rfl rfl (Nat.le_of_ble_eq_true rfl) ⟨Nat.le_of_ble_eq_true rfl, Nat.le_of_ble_eq_true rfl, Nat.zero_le _, Nat.zero_le _⟩ (sX3_at p1.row hc6) ?_
      obtain ⟨r9, hc8, hf⟩ := fd_bi hf
      refine fr_callSNi (pc := 62) (av := [.int r7]) dX2_parse_62 yy_X8_kindOf (List.mem_of_getElem? (i := 8) rfl) rfl rfl (Nat.le_of_ble_eq_true rfl) ⟨Nat.le_of_ble_eq_true rfl, Nat.le_of_ble_eq_true rfl, Nat.zero_le _, Nat.zero_le _⟩ (sX8_kindOf hc8) ?_
      obtain ⟨h11, hc10, hf⟩ := fd_bi hf
      refine fr_callVv (pc := 65) (av := [.int v3, .int r9]) dX2_parse_65 yy_X3_set kw_71 (by decide) rfl rfl rfl rfl (Nat.le_of_ble_eq_true rfl) ⟨Nat.le_of_ble_eq_true rfl, Nat.le_of_ble_eq_true rfl, Nat.zero_le _, Nat.zero_le _⟩ (sX3_set is_15 hc10) ?_
      refine fr_aload_n (pc := 68) dX2_parse_68 0 rfl rfl ?_
      refine fr_getR (pc := 69) dX2_parse_69 fl_X2_23 (by decide) rfl rfl ?_
      refine fr_iload_n (pc := 72) dX2_parse_72 2 rfl rfl ?_
      refine fr_aload_n (pc := 73) dX2_parse_73 0 rfl rfl ?_
      refine fr_getR (pc := 74) dX2_parse_74 fl_X2_20 (by decide) rfl rfl ?_
      refine fr_iload_n (pc := 77) dX2_parse_77 2 rfl rfl ?_
      obtain ⟨r13, hc12, hf⟩ := fd_bi hf
      refine fr_callVi (pc := 78) (av := [.int v3]) dX2_parse_78 yy_X3_at kw_70 (by decide) rfl rfl rfl rfl (Nat.le_of_ble_eq_true rfl) ⟨Nat.le_of_ble_eq_true rfl, Nat.le_of_ble_eq_true rfl, Nat.zero_le _, Nat.zero_le _⟩ (sX3_at is_15 hc12) ?_
      obtain ⟨r15, hc14, hf⟩ := fd_bi hf
      refine fr_callSi (pc := 81) (av := [.int r13]) dX2_parse_81 yy_X2_liftOf kw_80 rfl rfl (Nat.le_of_ble_eq_true rfl) ⟨Nat.le_of_ble_eq_true rfl, Nat.le_of_ble_eq_true rfl, Nat.zero_le _, Nat.zero_le _⟩ (sX2_liftOf hc14) ?_
      refine fr_aload_n (pc := 84) dX2_parse_84 0 rfl rfl ?_
      refine fr_getR (pc := 85) dX2_parse_85 fl_X2_14 (by decide) rfl rfl ?_
      refine fr_iload_n (pc := 88) dX2_parse_88 2 rfl rfl ?_
      obtain ⟨r17, hc16, hf⟩ := fd_bi hf
      refine fr_callVi (pc := 89) (av := [.int v3]) dX2_parse_89 yy_X3_at kw_70 (by decide) rfl rfl rfl rfl (Nat.le_of_ble_eq_true rfl) ⟨Nat.le_of_ble_eq_true rfl, Nat.le_of_ble_eq_true rfl, Nat.zero_le _, Nat.zero_le _⟩ (sX3_at is_13 hc16) ?_
      refine fr_isub (pc := 92) dX2_parse_92 ?_
      obtain ⟨h19, hc18, hf⟩ := fd_bi hf
      refine fr_callVv (pc := 93) (av := [.int v3, .int (r15 - r17)]) dX2_parse_93 yy_X3_set kw_71 (by decide) rfl rfl rfl rfl (Nat.le_of_ble_eq_true rfl) ⟨Nat.le_of_ble_eq_true rfl, Nat.le_of_ble_eq_true rfl, Nat.zero_le _, Nat.zero_le _⟩ (sX3_set is_17 hc18) ?_
      refine fr_iinc (pc := 96) (v := (v3 + (1 : Int32))) (lv' := [(3, .int (v3 + (1 : Int32))), (0, .ref (g.2.2.2 + 12)), (1, .ref (g.2.2.2 + k1))]) dX2_parse_96 2 rfl rfl (by decide) rfl ?_
      refine fr_goto (pc := 99) 16 dX2_parse_99 (by decide) ?_
      refine fr_loc (lv' := [(0, .ref (g.2.2.2 + 12)), (1, .ref (g.2.2.2 + k1)), (3, .int (v3 + (1 : Int32)))]) [1, 2, 0] rfl ?_
      exact ih _ _ hf
def fX2_parse (k1 : Nat) (n1 : Nat) (a2 : Int32) (h : fd_H) : Option (fd_H) :=
fd_lt (fd_ui h 12 3 (fd_min ((a2 + (1 : Int32)) / (3 : Int32)) (8 : Int32))) fun h1 =>
fX2_parse_L16 k1 n1 a2 fd_fu (0 : Int32) h1
set_option maxRecDepth 100000 in
set_option maxHeartbeats 4000000 in
theorem sX2_parse {g : fd_G} {hm : fd_H} {k1 : Nat} {n1 : Nat} {a2 : Int32} {r : fd_H} (p1 : fd_isText k1 n1) {h : fd_H} (hf : fX2_parse k1 n1 a2 h = some r) : fd_S g mX2_parse 1 [.ref (g.2.2.2 + 12), .ref (g.2.2.2 + k1), .int a2] fd_X0 (fd_mx h hm) none fd_X0 (fd_mx r hm) 0 0 := by
  refine fd_S.of (by decide +kernel) (Nat.le_of_ble_eq_true rfl) ?_
  unfold fX2_parse at hf
  refine fr_loc (lv' := [(0, .ref (g.2.2.2 + 12)), (1, .ref (g.2.2.2 + k1)), (2, .int a2)]) [0, 1, 2] rfl ?_
  refine fr_aload_n (pc := 0) dX2_parse_0 0 rfl rfl ?_
  refine fr_iload_n (pc := 1) dX2_parse_1 2 rfl rfl ?_
  refine fr_iconst (pc := 2) (v := (1 : Int32)) dX2_parse_2 (by decide) ?_
  refine fr_iadd (pc := 3) dX2_parse_3 ?_
  refine fr_iconst (pc := 4) (v := (3 : Int32)) dX2_parse_4 (by decide) ?_
  refine fr_idiv (pc := 5) dX2_parse_5 (by decide) ?_
  refine fr_bipush (pc := 6) (v := (8 : Int32)) dX2_parse_6 (by decide) ?_
  refine fr_min (pc := 8) dX2_parse_8 kw_67 (Nat.le_of_ble_eq_true rfl) (Nat.le_of_ble_eq_true rfl) (Nat.zero_le _) (Nat.zero_le _) ?_
  obtain ⟨h1, eh1, hf⟩ := fd_lt_e hf
  refine vx_putI (pc := 11) dX2_parse_11 fl_X2_26 ft_X2_3 (by decide) (by decide) rfl rfl eh1 ?_
  refine fr_iconst (pc := 14) (v := (0 : Int32)) dX2_parse_14 (by decide) ?_
  refine fr_istore_n (pc := 15) (lv' := [(3, .int (0 : Int32)), (0, .ref (g.2.2.2 + 12)), (1, .ref (g.2.2.2 + k1)), (2, .int a2)]) dX2_parse_15 rfl (by decide) rfl ?_
  refine fr_loc (lv' := [(0, .ref (g.2.2.2 + 12)), (1, .ref (g.2.2.2 + k1)), (3, .int (0 : Int32))]) [1, 2, 0] rfl ?_
  exact sX2_parse_L16 p1 _  _ _ hf
theorem dX4_renew_0 : decode cX4_renew 0 = .ok (.aload_n 0, 1) := by decide +kernel
theorem dX4_renew_1 : decode cX4_renew 1 = .ok (.iconst 0, 1) := by decide +kernel
theorem dX4_renew_2 : decode cX4_renew 2 = .ok (.putfield 20, 3) := by decide +kernel
theorem dX4_renew_5 : decode cX4_renew 5 = .ok (.aload_n 0, 1) := by decide +kernel
theorem dX4_renew_6 : decode cX4_renew 6 = .ok (.iload_n 1, 1) := by decide +kernel
theorem dX4_renew_7 : decode cX4_renew 7 = .ok (.putfield 24, 3) := by decide +kernel
theorem dX4_renew_10 : decode cX4_renew 10 = .ok (.aload_n 0, 1) := by decide +kernel
theorem dX4_renew_11 : decode cX4_renew 11 = .ok (.iload_n 2, 1) := by decide +kernel
theorem dX4_renew_12 : decode cX4_renew 12 = .ok (.putfield 28, 3) := by decide +kernel
theorem dX4_renew_15 : decode cX4_renew 15 = .ok (.iconst 0, 1) := by decide +kernel
theorem dX4_renew_16 : decode cX4_renew 16 = .ok (.istore_n 3, 1) := by decide +kernel
theorem dX4_renew_17 : decode cX4_renew 17 = .ok (.iload_n 3, 1) := by decide +kernel
theorem dX4_renew_18 : decode cX4_renew 18 = .ok (.bipush 48, 2) := by decide +kernel
theorem dX4_renew_20 : decode cX4_renew 20 = .ok (.if_icmp .ge 18, 3) := by decide +kernel
theorem dX4_renew_23 : decode cX4_renew 23 = .ok (.aload_n 0, 1) := by decide +kernel
theorem dX4_renew_24 : decode cX4_renew 24 = .ok (.getfield 14, 3) := by decide +kernel
theorem dX4_renew_27 : decode cX4_renew 27 = .ok (.iload_n 3, 1) := by decide +kernel
theorem dX4_renew_28 : decode cX4_renew 28 = .ok (.iconst 0, 1) := by decide +kernel
theorem dX4_renew_29 : decode cX4_renew 29 = .ok (.invokevirtual 31, 3) := by decide +kernel
theorem dX4_renew_32 : decode cX4_renew 32 = .ok (.iinc 3 1, 3) := by decide +kernel
theorem dX4_renew_35 : decode cX4_renew 35 = .ok (.goto (-18), 3) := by decide +kernel
theorem dX4_renew_38 : decode cX4_renew 38 = .ok (.return_, 1) := by decide +kernel
def fX4_renew_L17 (k : Nat) (a1 : Int32) (a2 : Int32) : Nat → Int32 → fd_H → Option (fd_H)
  | 0 => fun _ _ => none
  | n + 1 => fun v3 h =>
if (48 : Int32) ≤ v3 then (
some h)
else (
(fX3_set (k + 1) 48 v3 (0 : Int32) h).bind fun h3 =>
fX4_renew_L17 k a1 a2 n (v3 + (1 : Int32)) h3)
set_option maxRecDepth 100000 in
set_option maxHeartbeats 4000000 in
theorem sX4_renew_L17 {g : fd_G} {hm : fd_H} {k : Nat} {a1 : Int32} {a2 : Int32} {r : fd_H} (p0 : fd_isSheet k) : ∀ (n : Nat) (v3 : Int32) (h : fd_H), fX4_renew_L17 k a1 a2 n v3 h = some r → fd_A g mX4_renew fd_E (fd_rm 1 0 0) (fd_Q g none fd_X0 (fd_mx r hm) 0 0) 17 [(0, .ref (g.2.2.2 + k)), (3, .int v3)] [] fd_X0 (fd_mx h hm) 0 0 := by
  intro n
  induction n with
  | zero =>
    intro _ _ hf
    cases hf
  | succ n ih =>
    intro v3 h hf
    rw [fX4_renew_L17] at hf
    refine fr_iload_n (pc := 17) dX4_renew_17 1 rfl rfl ?_
    refine fr_bipush (pc := 18) (v := (48 : Int32)) dX4_renew_18 (by decide) ?_
    refine fr_icmp_ge (pc := 20) 38 dX4_renew_20 (by decide) (fun c1 => ?_) (fun c1 => ?_)
    · have hf := fd_t c1 hf
      exact vx_vretW (pc := 38) dX4_renew_38 rfl hf
    · have hf := fd_f c1 hf
      refine fr_aload_n (pc := 23) dX4_renew_23 0 rfl rfl ?_
      refine fr_getR (pc := 24) dX4_renew_24 fl_X4_14 p0.b p0.s rfl ?_
      refine fr_iload_n (pc := 27) dX4_renew_27 1 rfl rfl ?_
      refine fr_iconst (pc := 28) (v := (0 : Int32)) dX4_renew_28 (by decide) ?_
      obtain ⟨h3, hc2, hf⟩ := fd_bi hf
      refine fr_callVv (pc := 29) (av := [.int v3, .int (0 : Int32)]) dX4_renew_29 yy_X3_set kw_82 p0.row.b p0.row.s rfl rfl rfl (Nat.le_of_ble_eq_true rfl) ⟨Nat.le_of_ble_eq_true rfl, Nat.le_of_ble_eq_true rfl, Nat.zero_le _, Nat.zero_le _⟩ (sX3_set p0.row hc2) ?_
      refine fr_iinc (pc := 32) (v := (v3 + (1 : Int32))) (lv' := [(3, .int (v3 + (1 : Int32))), (0, .ref (g.2.2.2 + k))]) dX4_renew_32 1 rfl rfl (by decide) rfl ?_
      refine fr_goto (pc := 35) 17 dX4_renew_35 (by decide) ?_
      refine fr_loc (lv' := [(0, .ref (g.2.2.2 + k)), (3, .int (v3 + (1 : Int32)))]) [1, 0] rfl ?_
      exact ih _ _ hf
def fX4_renew (k : Nat) (a1 : Int32) (a2 : Int32) (h : fd_H) : Option (fd_H) :=
fd_lt (fd_ui h k 1 (fd_b false)) fun h1 =>
fd_lt (fd_ui h1 k 2 a1) fun h2 =>
fd_lt (fd_ui h2 k 3 a2) fun h3 =>
fX4_renew_L17 k a1 a2 fd_fu (0 : Int32) h3
set_option maxRecDepth 100000 in
set_option maxHeartbeats 4000000 in
theorem sX4_renew {g : fd_G} {hm : fd_H} {k : Nat} {a1 : Int32} {a2 : Int32} {r : fd_H} (p0 : fd_isSheet k) {h : fd_H} (hf : fX4_renew k a1 a2 h = some r) : fd_S g mX4_renew 1 [.ref (g.2.2.2 + k), .int a1, .int a2] fd_X0 (fd_mx h hm) none fd_X0 (fd_mx r hm) 0 0 := by
  refine fd_S.of (by decide +kernel) (Nat.le_of_ble_eq_true rfl) ?_
  unfold fX4_renew at hf
  refine fr_loc (lv' := [(0, .ref (g.2.2.2 + k)), (1, .int a1), (2, .int a2)]) [0, 1, 2] rfl ?_
  refine fr_aload_n (pc := 0) dX4_renew_0 0 rfl rfl ?_
  refine fr_iconst (pc := 1) (v := (0 : Int32)) dX4_renew_1 (by decide) ?_
  obtain ⟨h1, eh1, hf⟩ := fd_lt_e hf
  refine vx_putZ (x := false) (pc := 2) dX4_renew_2 fl_X4_20 ft_X4_1 p0.b p0.x p0.s rfl eh1 ?_
  refine fr_aload_n (pc := 5) dX4_renew_5 0 rfl rfl ?_
  refine fr_iload_n (pc := 6) dX4_renew_6 1 rfl rfl ?_
  obtain ⟨h2, eh2, hf⟩ := fd_lt_e hf
  refine vx_putI (pc := 7) dX4_renew_7 fl_X4_24 ft_X4_2 p0.b p0.x p0.s rfl eh2 ?_
  refine fr_aload_n (pc := 10) dX4_renew_10 0 rfl rfl ?_
  refine fr_iload_n (pc := 11) dX4_renew_11 2 rfl rfl ?_
  obtain ⟨h3, eh3, hf⟩ := fd_lt_e hf
  refine vx_putI (pc := 12) dX4_renew_12 fl_X4_28 ft_X4_3 p0.b p0.x p0.s rfl eh3 ?_
  refine fr_iconst (pc := 15) (v := (0 : Int32)) dX4_renew_15 (by decide) ?_
  refine fr_istore_n (pc := 16) (lv' := [(3, .int (0 : Int32)), (0, .ref (g.2.2.2 + k)), (1, .int a1), (2, .int a2)]) dX4_renew_16 rfl (by decide) rfl ?_
  refine fr_loc (lv' := [(0, .ref (g.2.2.2 + k)), (3, .int (0 : Int32))]) [1, 0] rfl ?_
  exact sX4_renew_L17 p0 _  _ _ hf
theorem dX4_store_0 : decode cX4_store 0 = .ok (.aload_n 0, 1) := by decide +kernel
theorem dX4_store_1 : decode cX4_store 1 = .ok (.getfield 14, 3) := by decide +kernel
theorem dX4_store_4 : decode cX4_store 4 = .ok (.iload_n 1, 1) := by decide +kernel
theorem dX4_store_5 : decode cX4_store 5 = .ok (.aload_n 0, 1) := by decide +kernel
theorem dX4_store_6 : decode cX4_store 6 = .ok (.getfield 24, 3) := by decide +kernel
theorem dX4_store_9 : decode cX4_store 9 = .ok (.ifCond .ne 8, 3) := by decide +kernel
theorem dX4_store_12 : decode cX4_store 12 = .ok (.iload_n 2, 1) := by decide +kernel
theorem dX4_store_13 : decode cX4_store 13 = .ok (.i2b, 1) := by decide +kernel
theorem dX4_store_14 : decode cX4_store 14 = .ok (.goto 17, 3) := by decide +kernel
theorem dX4_store_17 : decode cX4_store 17 = .ok (.aload_n 0, 1) := by decide +kernel
theorem dX4_store_18 : decode cX4_store 18 = .ok (.getfield 24, 3) := by decide +kernel
theorem dX4_store_21 : decode cX4_store 21 = .ok (.iconst 1, 1) := by decide +kernel
theorem dX4_store_22 : decode cX4_store 22 = .ok (.if_icmp .ne 8, 3) := by decide +kernel
theorem dX4_store_25 : decode cX4_store 25 = .ok (.iload_n 2, 1) := by decide +kernel
theorem dX4_store_26 : decode cX4_store 26 = .ok (.i2s, 1) := by decide +kernel
theorem dX4_store_27 : decode cX4_store 27 = .ok (.goto 4, 3) := by decide +kernel
theorem dX4_store_30 : decode cX4_store 30 = .ok (.iload_n 2, 1) := by decide +kernel
theorem dX4_store_31 : decode cX4_store 31 = .ok (.invokevirtual 31, 3) := by decide +kernel
theorem dX4_store_34 : decode cX4_store 34 = .ok (.return_, 1) := by decide +kernel
def fX4_store_L31 (k : Nat) (a1 : Int32) (a2 : Int32) (vs0 : Int32) (h : fd_H) : Option (fd_H) :=
(fX3_set (k + 1) 48 a1 vs0 h).bind fun h2 =>
some h2
set_option maxRecDepth 100000 in
set_option maxHeartbeats 4000000 in
theorem sX4_store_L31 {g : fd_G} {hm : fd_H} {k : Nat} {a1 : Int32} {a2 : Int32} {r : fd_H} (p0 : fd_isSheet k) : ∀ (vs0 : Int32) (h : fd_H), fX4_store_L31 k a1 a2 vs0 h = some r → fd_A g mX4_store fd_E (fd_rm 1 0 0) (fd_Q g none fd_X0 (fd_mx r hm) 0 0) 31 [] [.int vs0, .int a1, .ref (g.2.2.2 + (k + 1))] fd_X0 (fd_mx h hm) 0 0 := by
  intro vs0 h hf
  unfold fX4_store_L31 at hf
  obtain ⟨h2, hc1, hf⟩ := fd_bi hf
  refine fr_callVv (pc := 31) (av := [.int a1, .int vs0]) dX4_store_31 yy_X3_set kw_82 p0.row.b p0.row.s rfl rfl rfl (Nat.le_of_ble_eq_true rfl) ⟨Nat.le_of_ble_eq_true rfl, Nat.le_of_ble_eq_true rfl, Nat.zero_le _, Nat.zero_le _⟩ (sX3_set p0.row hc1) ?_
  exact vx_vretW (pc := 34) dX4_store_34 rfl hf
def fX4_store (k : Nat) (a1 : Int32) (a2 : Int32) (h : fd_H) : Option (fd_H) :=
if (h.1 k 2) = 0 then (
fX4_store_L31 k a1 a2 ((a2).toInt8.toInt32) h)
else (
if (h.1 k 2) = (1 : Int32) then (
fX4_store_L31 k a1 a2 ((a2).toInt16.toInt32) h)
else (
fX4_store_L31 k a1 a2 a2 h))
set_option maxRecDepth 100000 in
set_option maxHeartbeats 4000000 in
theorem sX4_store {g : fd_G} {hm : fd_H} {k : Nat} {a1 : Int32} {a2 : Int32} {r : fd_H} (p0 : fd_isSheet k) {h : fd_H} (hf : fX4_store k a1 a2 h = some r) : fd_S g mX4_store 1 [.ref (g.2.2.2 + k), .int a1, .int a2] fd_X0 (fd_mx h hm) none fd_X0 (fd_mx r hm) 0 0 := by
  refine fd_S.of (by decide +kernel) (Nat.le_of_ble_eq_true rfl) ?_
  unfold fX4_store at hf
  refine fr_loc (lv' := [(0, .ref (g.2.2.2 + k)), (1, .int a1), (2, .int a2)]) [0, 1, 2] rfl ?_
  refine fr_aload_n (pc := 0) dX4_store_0 0 rfl rfl ?_
  refine fr_getR (pc := 1) dX4_store_1 fl_X4_14 p0.b p0.s rfl ?_
  refine fr_iload_n (pc := 4) dX4_store_4 1 rfl rfl ?_
  refine fr_aload_n (pc := 5) dX4_store_5 0 rfl rfl ?_
  refine vx_getI (pc := 6) dX4_store_6 fl_X4_24 p0.b p0.x p0.s rfl ?_
  refine fr_if_ne (pc := 9) 17 dX4_store_9 (by decide) (fun c1 => ?_) (fun c1 => ?_)
  · have hf := fd_f c1 hf
    refine fr_aload_n (pc := 17) dX4_store_17 0 rfl rfl ?_
    refine vx_getI (pc := 18) dX4_store_18 fl_X4_24 p0.b p0.x p0.s rfl ?_
    refine fr_iconst (pc := 21) (v := (1 : Int32)) dX4_store_21 (by decide) ?_
    refine fr_icmp_ne (pc := 22) 30 dX4_store_22 (by decide) (fun c2 => ?_) (fun c2 => ?_)
    · have hf := fd_f c2 hf
      refine fr_iload_n (pc := 30) dX4_store_30 2 rfl rfl ?_
      refine fr_loc (lv' := []) [] rfl ?_
      exact sX4_store_L31 p0  _ _ hf
    · have hf := fd_t c2 hf
      refine fr_iload_n (pc := 25) dX4_store_25 2 rfl rfl ?_
      refine fr_i2s (pc := 26) dX4_store_26 ?_
      refine fr_goto (pc := 27) 31 dX4_store_27 (by decide) ?_
      refine fr_loc (lv' := []) [] rfl ?_
      exact sX4_store_L31 p0  _ _ hf
  · have hf := fd_t c1 hf
    refine fr_iload_n (pc := 12) dX4_store_12 2 rfl rfl ?_
    refine fr_i2b (pc := 13) dX4_store_13 ?_
    refine fr_goto (pc := 14) 31 dX4_store_14 (by decide) ?_
    refine fr_loc (lv' := []) [] rfl ?_
    exact sX4_store_L31 p0  _ _ hf
