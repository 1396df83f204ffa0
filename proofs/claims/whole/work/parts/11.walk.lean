theorem dX4_take_0 : decode cX4_take 0 = .ok (.iconst 0, 1) := by decide +kernel
theorem dX4_take_1 : decode cX4_take 1 = .ok (.istore 5, 2) := by decide +kernel
theorem dX4_take_3 : decode cX4_take 3 = .ok (.iload 5, 2) := by decide +kernel
theorem dX4_take_5 : decode cX4_take 5 = .ok (.iload 4, 2) := by decide +kernel
theorem dX4_take_7 : decode cX4_take 7 = .ok (.if_icmp .ge 50, 3) := by decide +kernel
theorem dX4_take_10 : decode cX4_take 10 = .ok (.iload_n 3, 1) := by decide +kernel
theorem dX4_take_11 : decode cX4_take 11 = .ok (.iload_n 2, 1) := by decide +kernel
theorem dX4_take_12 : decode cX4_take 12 = .ok (.if_icmp .le 13, 3) := by decide +kernel
theorem dX4_take_15 : decode cX4_take 15 = .ok (.iload 4, 2) := by decide +kernel
theorem dX4_take_17 : decode cX4_take 17 = .ok (.iconst 1, 1) := by decide +kernel
theorem dX4_take_18 : decode cX4_take 18 = .ok (.isub, 1) := by decide +kernel
theorem dX4_take_19 : decode cX4_take 19 = .ok (.iload 5, 2) := by decide +kernel
theorem dX4_take_21 : decode cX4_take 21 = .ok (.isub, 1) := by decide +kernel
theorem dX4_take_22 : decode cX4_take 22 = .ok (.goto 5, 3) := by decide +kernel
theorem dX4_take_25 : decode cX4_take 25 = .ok (.iload 5, 2) := by decide +kernel
theorem dX4_take_27 : decode cX4_take 27 = .ok (.istore 6, 2) := by decide +kernel
theorem dX4_take_29 : decode cX4_take 29 = .ok (.aload_n 0, 1) := by decide +kernel
theorem dX4_take_30 : decode cX4_take 30 = .ok (.getfield 14, 3) := by decide +kernel
theorem dX4_take_33 : decode cX4_take 33 = .ok (.iload_n 3, 1) := by decide +kernel
theorem dX4_take_34 : decode cX4_take 34 = .ok (.iload 6, 2) := by decide +kernel
theorem dX4_take_36 : decode cX4_take 36 = .ok (.iadd, 1) := by decide +kernel
theorem dX4_take_37 : decode cX4_take 37 = .ok (.aload_n 1, 1) := by decide +kernel
theorem dX4_take_38 : decode cX4_take 38 = .ok (.getfield 14, 3) := by decide +kernel
theorem dX4_take_41 : decode cX4_take 41 = .ok (.iload_n 2, 1) := by decide +kernel
theorem dX4_take_42 : decode cX4_take 42 = .ok (.iload 6, 2) := by decide +kernel
theorem dX4_take_44 : decode cX4_take 44 = .ok (.iadd, 1) := by decide +kernel
theorem dX4_take_45 : decode cX4_take 45 = .ok (.invokevirtual 35, 3) := by decide +kernel
theorem dX4_take_48 : decode cX4_take 48 = .ok (.invokevirtual 31, 3) := by decide +kernel
theorem dX4_take_51 : decode cX4_take 51 = .ok (.iinc 5 1, 3) := by decide +kernel
theorem dX4_take_54 : decode cX4_take 54 = .ok (.goto (-51), 3) := by decide +kernel
theorem dX4_take_57 : decode cX4_take 57 = .ok (.return_, 1) := by decide +kernel
def fX4_take_L27 (k : Nat) (k1 : Nat) (a2 : Int32) (a3 : Int32) (a4 : Int32) (K3 : Int32 → fd_H → Option (fd_H)) (v5 : Int32) (vs0 : Int32) (h : fd_H) : Option (fd_H) :=
(fX3_at (k1 + 1) 48 (a2 + vs0) h).bind fun r2 =>
(fX3_set (k + 1) 48 (a3 + vs0) r2 h).bind fun h4 =>
K3 (v5 + (1 : Int32)) h4
set_option maxRecDepth 100000 in
set_option maxHeartbeats 4000000 in
theorem sX4_take_L27 {g : fd_G} {hm : fd_H} {k : Nat} {k1 : Nat} {a2 : Int32} {a3 : Int32} {a4 : Int32} {r : fd_H} (p0 : fd_isSheet k) (p1 : fd_isSheet k1) {K3 : Int32 → fd_H → Option (fd_H)} (hK3 : ∀ (v5 : Int32) (h : fd_H), K3 v5 h = some r → fd_A g mX4_take fd_E (fd_rm 1 0 0) (fd_Q g none fd_X0 (fd_mx r hm) 0 0) 3 [(0, .ref (g.2.2.2 + k)), (1, .ref (g.2.2.2 + k1)), (2, .int a2), (3, .int a3), (4, .int a4), (5, .int v5)] [] fd_X0 (fd_mx h hm) 0 0) : ∀ (v5 : Int32) (vs0 : Int32) (h : fd_H), fX4_take_L27 k k1 a2 a3 a4 K3 v5 vs0 h = some r → fd_A g mX4_take fd_E (fd_rm 1 0 0) (fd_Q g none fd_X0 (fd_mx r hm) 0 0) 27 [(0, .ref (g.2.2.2 + k)), (1, .ref (g.2.2.2 + k1)), (2, .int a2), (3, .int a3), (4, .int a4), (5, .int v5)] [.int vs0] fd_X0 (fd_mx h hm) 0 0 := by
  intro v5 vs0 h hf
  unfold fX4_take_L27 at hf
  refine fr_istore (pc := 27) (lv' := [(6, .int vs0), (0, .ref (g.2.2.2 + k)), (1, .ref (g.2.2.2 + k1)), (2, .int a2), (3, .int a3), (4, .int a4), (5, .int v5)]) dX4_take_27 (by decide) rfl ?_
  refine fr_aload_n (pc := 29) dX4_take_29 1 rfl rfl ?_
  refine fr_getR (pc := 30) dX4_take_30 fl_X4_14 p0.b p0.s rfl ?_
  refine fr_iload_n (pc := 33) dX4_take_33 4 rfl rfl ?_
  refine fr_iload (pc := 34) dX4_take_34 0 rfl ?_
  refine fr_iadd (pc := 36) dX4_take_36 ?_
  refine fr_aload_n (pc := 37) dX4_take_37 2 rfl rfl ?_
  refine fr_getR (pc := 38) dX4_take_38 fl_X4_14 p1.b p1.s rfl ?_
  refine fr_iload_n (pc := 41) dX4_take_41 3 rfl rfl ?_
  refine fr_iload (pc := 42) dX4_take_42 0 rfl ?_
  refine fr_iadd (pc := 44) dX4_take_44 ?_
  obtain ⟨r2, hc1, hf⟩ := fd_bi hf
  refine fr_callVi (pc := 45) (av := [.int (a2 + vs0)]) dX4_take_45 yy_X3_at kw_83 p1.row.b p1.row.s rfl rfl rfl (Nat.le_of_ble_eq_true rfl) ⟨Nat.le_of_ble_eq_true rfl, Nat.le_of_ble_eq_true rfl, Nat.zero_le _, Nat.zero_le _⟩ (sX3_at p1.row hc1) ?_
  obtain ⟨h4, hc3, hf⟩ := fd_bi hf
  refine fr_callVv (pc := 48) (av := [.int (a3 + vs0), .int r2]) dX4_take_48 yy_X3_set kw_82 p0.row.b p0.row.s rfl rfl rfl (Nat.le_of_ble_eq_true rfl) ⟨Nat.le_of_ble_eq_true rfl, Nat.le_of_ble_eq_true rfl, Nat.zero_le _, Nat.zero_le _⟩ (sX3_set p0.row hc3) ?_
  refine fr_iinc (pc := 51) (v := (v5 + (1 : Int32))) (lv' := [(5, .int (v5 + (1 : Int32))), (6, .int vs0), (0, .ref (g.2.2.2 + k)), (1, .ref (g.2.2.2 + k1)), (2, .int a2), (3, .int a3), (4, .int a4)]) dX4_take_51 6 rfl rfl (by decide) rfl ?_
  refine fr_goto (pc := 54) 3 dX4_take_54 (by decide) ?_
  refine fr_loc (lv' := [(0, .ref (g.2.2.2 + k)), (1, .ref (g.2.2.2 + k1)), (2, .int a2), (3, .int a3), (4, .int a4), (5, .int (v5 + (1 : Int32)))]) [2, 3, 4, 5, 6, 0] rfl ?_
  exact hK3 _ _ hf
def fX4_take_L3 (k : Nat) (k1 : Nat) (a2 : Int32) (a3 : Int32) (a4 : Int32) : Nat → Int32 → fd_H → Option (fd_H)
  | 0 => fun _ _ => none
  | n + 1 => fun v5 h =>
if a4 ≤ v5 then (
some h)
else (
if a3 ≤ a2 then (
fX4_take_L27 k k1 a2 a3 a4 (fX4_take_L3 k k1 a2 a3 a4 n) v5 v5 h)
else (
fX4_take_L27 k k1 a2 a3 a4 (fX4_take_L3 k k1 a2 a3 a4 n) v5 ((a4 - (1 : Int32)) - v5) h))
set_option maxRecDepth 100000 in
set_option maxHeartbeats 4000000 in
theorem sX4_take_L3 {g : fd_G} {hm : fd_H} {k : Nat} {k1 : Nat} {a2 : Int32} {a3 : Int32} {a4 : Int32} {r : fd_H} (p0 : fd_isSheet k) (p1 : fd_isSheet k1) : ∀ (n : Nat) (v5 : Int32) (h : fd_H), fX4_take_L3 k k1 a2 a3 a4 n v5 h = some r → fd_A g mX4_take fd_E (fd_rm 1 0 0) (fd_Q g none fd_X0 (fd_mx r hm) 0 0) 3 [(0, .ref (g.2.2.2 + k)), (1, .ref (g.2.2.2 + k1)), (2, .int a2), (3, .int a3), (4, .int a4), (5, .int v5)] [] fd_X0 (fd_mx h hm) 0 0 := by
  intro n
  induction n with
  | zero =>
    intro _ _ hf
    cases hf
  | succ n ih =>
    intro v5 h hf
    rw [fX4_take_L3] at hf
    refine fr_iload (pc := 3) dX4_take_3 5 rfl ?_
    refine fr_iload (pc := 5) dX4_take_5 4 rfl ?_
    refine fr_icmp_ge (pc := 7) 57 dX4_take_7 (by decide) (fun c1 => ?_) (fun c1 => ?_)
    · have hf := fd_t c1 hf
      exact vx_vretW (pc := 57) dX4_take_57 rfl hf
    · have hf := fd_f c1 hf
      refine fr_iload_n (pc := 10) dX4_take_10 3 rfl rfl ?_
      refine fr_iload_n (pc := 11) dX4_take_11 2 rfl rfl ?_
      refine fr_icmp_le (pc := 12) 25 dX4_take_12 (by decide) (fun c2 => ?_) (fun c2 => ?_)
      · have hf := fd_t c2 hf
        refine fr_iload (pc := 25) dX4_take_25 5 rfl ?_
        refine fr_loc (lv' := [(0, .ref (g.2.2.2 + k)), (1, .ref (g.2.2.2 + k1)), (2, .int a2), (3, .int a3), (4, .int a4), (5, .int v5)]) [0, 1, 2, 3, 4, 5] rfl ?_
        exact sX4_take_L27 p0 p1 ih  _ _ _ hf
      · have hf := fd_f c2 hf
        refine fr_iload (pc := 15) dX4_take_15 4 rfl ?_
        refine fr_iconst (pc := 17) (v := (1 : Int32)) dX4_take_17 (by decide) ?_
        refine fr_isub (pc := 18) dX4_take_18 ?_
        refine fr_iload (pc := 19) dX4_take_19 5 rfl ?_
        refine fr_isub (pc := 21) dX4_take_21 ?_
        refine fr_goto (pc := 22) 27 dX4_take_22 (by decide) ?_
        refine fr_loc (lv' := [(0, .ref (g.2.2.2 + k)), (1, .ref (g.2.2.2 + k1)), (2, .int a2), (3, .int a3), (4, .int a4), (5, .int v5)]) [0, 1, 2, 3, 4, 5] rfl ?_
        exact sX4_take_L27 p0 p1 ih  _ _ _ hf
def fX4_take (k : Nat) (k1 : Nat) (a2 : Int32) (a3 : Int32) (a4 : Int32) (h : fd_H) : Option (fd_H) :=
fX4_take_L3 k k1 a2 a3 a4 fd_fu (0 : Int32) h
set_option maxRecDepth 100000 in
set_option maxHeartbeats 4000000 in
theorem sX4_take {g : fd_G} {hm : fd_H} {k : Nat} {k1 : Nat} {a2 : Int32} {a3 : Int32} {a4 : Int32} {r : fd_H} (p0 : fd_isSheet k) (p1 : fd_isSheet k1) {h : fd_H} (hf : fX4_take k k1 a2 a3 a4 h = some r) : fd_S g mX4_take 1 [.ref (g.2.2.2 + k), .ref (g.2.2.2 + k1), .int a2, .int a3, .int a4] fd_X0 (fd_mx h hm) none fd_X0 (fd_mx r hm) 0 0 := by
  refine fd_S.of (by decide +kernel) (Nat.le_of_ble_eq_true rfl) ?_
  unfold fX4_take at hf
  refine fr_loc (lv' := [(0, .ref (g.2.2.2 + k)), (1, .ref (g.2.2.2 + k1)), (2, .int a2), (3, .int a3), (4, .int a4)]) [0, 1, 2, 3, 4] rfl ?_
  refine fr_iconst (pc := 0) (v := (0 : Int32)) dX4_take_0 (by decide) ?_
  refine fr_istore (pc := 1) (lv' := [(5, .int (0 : Int32)), (0, .ref (g.2.2.2 + k)), (1, .ref (g.2.2.2 + k1)), (2, .int a2), (3, .int a3), (4, .int a4)]) dX4_take_1 (by decide) rfl ?_
  refine fr_loc (lv' := [(0, .ref (g.2.2.2 + k)), (1, .ref (g.2.2.2 + k1)), (2, .int a2), (3, .int a3), (4, .int a4), (5, .int (0 : Int32))]) [1, 2, 3, 4, 5, 0] rfl ?_
  exact sX4_take_L3 p0 p1 _  _ _ hf
theorem dX5_isBy_0 : decode cX5_isBy 0 = .ok (.aload_n 0, 1) := by decide +kernel
theorem dX5_isBy_1 : decode cX5_isBy 1 = .ok (.iload_n 1, 1) := by decide +kernel
theorem dX5_isBy_2 : decode cX5_isBy 2 = .ok (.invokevirtual 15, 3) := by decide +kernel
theorem dX5_isBy_5 : decode cX5_isBy 5 = .ok (.iload_n 2, 1) := by decide +kernel
theorem dX5_isBy_6 : decode cX5_isBy 6 = .ok (.invokestatic 19, 3) := by decide +kernel
theorem dX5_isBy_9 : decode cX5_isBy 9 = .ok (.land, 1) := by decide +kernel
theorem dX5_isBy_10 : decode cX5_isBy 10 = .ok (.lconst 0, 1) := by decide +kernel
theorem dX5_isBy_11 : decode cX5_isBy 11 = .ok (.lcmp, 1) := by decide +kernel
theorem dX5_isBy_12 : decode cX5_isBy 12 = .ok (.ifCond .eq 7, 3) := by decide +kernel
theorem dX5_isBy_15 : decode cX5_isBy 15 = .ok (.iconst 1, 1) := by decide +kernel
theorem dX5_isBy_16 : decode cX5_isBy 16 = .ok (.goto 4, 3) := by decide +kernel
theorem dX5_isBy_19 : decode cX5_isBy 19 = .ok (.iconst 0, 1) := by decide +kernel
theorem dX5_isBy_20 : decode cX5_isBy 20 = .ok (.ireturn, 1) := by decide +kernel
def fX5_isBy (k : Nat) (a1 : Int32) (a2 : Int32) (h : fd_H) : Option (Bool) :=
(fX5_at k a1 h).bind fun r2 =>
(fX8_bitsUpTo a2).bind fun r4 =>
if (lg_cmp (r2 &&& r4) (0 : Int64)) = 0 then (
some (false))
else (
some (true))
set_option maxRecDepth 100000 in
set_option maxHeartbeats 4000000 in
theorem sX5_isBy {g : fd_G} {hm : fd_H} {k : Nat} {a1 : Int32} {a2 : Int32} {h : fd_H} {r : Bool} (p0 : fd_isSpans k) (hf : fX5_isBy k a1 a2 h = some r) : fd_S g mX5_isBy 1 [.ref (g.2.2.2 + k), .int a1, .int a2] fd_X0 (fd_mx h hm) (some (.int (fd_b r))) fd_X0 (fd_mx h hm) 0 0 := by
  refine fd_S.of (by decide +kernel) (Nat.le_of_ble_eq_true rfl) ?_
  unfold fX5_isBy at hf
  refine fr_loc (lv' := [(0, .ref (g.2.2.2 + k)), (1, .int a1), (2, .int a2)]) [0, 1, 2] rfl ?_
  refine fr_aload_n (pc := 0) dX5_isBy_0 0 rfl rfl ?_
  refine fr_iload_n (pc := 1) dX5_isBy_1 1 rfl rfl ?_
  obtain ⟨r2, hc1, hf⟩ := fd_bi hf
  refine fr_callVl (pc := 2) (av := [.int a1]) dX5_isBy_2 yy_X5_at kw_88 p0.b p0.s rfl rfl rfl (Nat.le_of_ble_eq_true rfl) ⟨Nat.le_of_ble_eq_true rfl, Nat.le_of_ble_eq_true rfl, Nat.zero_le _, Nat.zero_le _⟩ (sX5_at p0 hc1) ?_
  refine fr_iload_n (pc := 5) dX5_isBy_5 2 rfl rfl ?_
  obtain ⟨r4, hc3, hf⟩ := fd_bi hf
  refine fr_callSNl (pc := 6) (av := [.int a2]) dX5_isBy_6 yy_X8_bitsUpTo (List.mem_of_getElem? (i := 11) rfl) rfl rfl (Nat.le_of_ble_eq_true rfl) ⟨Nat.le_of_ble_eq_true rfl, Nat.le_of_ble_eq_true rfl, Nat.zero_le _, Nat.zero_le _⟩ (sX8_bitsUpTo hc3) ?_
  refine fr_land (pc := 9) dX5_isBy_9 ?_
  refine fr_lconst (pc := 10) (v := (0 : Int64)) dX5_isBy_10 (by decide) ?_
  refine fr_lcmp (pc := 11) dX5_isBy_11 ?_
  refine fr_if_eq (pc := 12) 19 dX5_isBy_12 (by decide) (fun c5 => ?_) (fun c5 => ?_)
  · have hf := fd_t c5 hf
    refine fr_iconst (pc := 19) (v := (0 : Int32)) dX5_isBy_19 (by decide) ?_
    exact fr_zretP (x := false) (pc := 20) dX5_isBy_20 rfl hf
  · have hf := fd_f c5 hf
    refine fr_iconst (pc := 15) (v := (1 : Int32)) dX5_isBy_15 (by decide) ?_
    refine fr_goto (pc := 16) 20 dX5_isBy_16 (by decide) ?_
    exact fr_zretP (x := true) (pc := 20) dX5_isBy_20 rfl hf
theorem dX6_add_0 : decode cX6_add 0 = .ok (.aload_n 0, 1) := by decide +kernel
theorem dX6_add_1 : decode cX6_add 1 = .ok (.getfield 7, 3) := by decide +kernel
theorem dX6_add_4 : decode cX6_add 4 = .ok (.aload_n 0, 1) := by decide +kernel
theorem dX6_add_5 : decode cX6_add 5 = .ok (.getfield 13, 3) := by decide +kernel
theorem dX6_add_8 : decode cX6_add 8 = .ok (.if_icmp .lt 5, 3) := by decide +kernel
theorem dX6_add_11 : decode cX6_add 11 = .ok (.iconst 0, 1) := by decide +kernel
theorem dX6_add_12 : decode cX6_add 12 = .ok (.ireturn, 1) := by decide +kernel
theorem dX6_add_13 : decode cX6_add 13 = .ok (.aload_n 0, 1) := by decide +kernel
theorem dX6_add_14 : decode cX6_add 14 = .ok (.getfield 21, 3) := by decide +kernel
theorem dX6_add_17 : decode cX6_add 17 = .ok (.aload_n 0, 1) := by decide +kernel
theorem dX6_add_18 : decode cX6_add 18 = .ok (.getfield 7, 3) := by decide +kernel
theorem dX6_add_21 : decode cX6_add 21 = .ok (.iload_n 1, 1) := by decide +kernel
theorem dX6_add_22 : decode cX6_add 22 = .ok (.invokevirtual 25, 3) := by decide +kernel
theorem dX6_add_25 : decode cX6_add 25 = .ok (.aload_n 0, 1) := by decide +kernel
theorem dX6_add_26 : decode cX6_add 26 = .ok (.dup, 1) := by decide +kernel
theorem dX6_add_27 : decode cX6_add 27 = .ok (.getfield 7, 3) := by decide +kernel
theorem dX6_add_30 : decode cX6_add 30 = .ok (.iconst 1, 1) := by decide +kernel
theorem dX6_add_31 : decode cX6_add 31 = .ok (.iadd, 1) := by decide +kernel
theorem dX6_add_32 : decode cX6_add 32 = .ok (.putfield 7, 3) := by decide +kernel
theorem dX6_add_35 : decode cX6_add 35 = .ok (.iconst 1, 1) := by decide +kernel
theorem dX6_add_36 : decode cX6_add 36 = .ok (.ireturn, 1) := by decide +kernel
def fX6_add (k : Nat) (n : Nat) (a1 : Int32) (h : fd_H) : Option (Bool × fd_H) :=
if (h.1 k 2) < (h.1 k 1) then (
(fX3_set (k + 1) n (h.1 k 2) a1 h).bind fun h3 =>
fd_lt (fd_ui h3 k 2 ((h3.1 k 2) + (1 : Int32))) fun h4 =>
some (true, h4))
else (
some (false, h))
set_option maxRecDepth 100000 in
set_option maxHeartbeats 4000000 in
theorem sX6_add {g : fd_G} {hm : fd_H} {k : Nat} {n : Nat} {a1 : Int32} {r : Bool × fd_H} (p0 : fd_isText k n) {h : fd_H} (hf : fX6_add k n a1 h = some r) : fd_S g mX6_add 1 [.ref (g.2.2.2 + k), .int a1] fd_X0 (fd_mx h hm) (some (.int (fd_b r.1))) fd_X0 (fd_mx r.2 hm) 0 0 := by
  refine fd_S.of (by decide +kernel) (Nat.le_of_ble_eq_true rfl) ?_
  unfold fX6_add at hf
  refine fr_loc (lv' := [(0, .ref (g.2.2.2 + k)), (1, .int a1)]) [0, 1] rfl ?_
  refine fr_aload_n (pc := 0) dX6_add_0 0 rfl rfl ?_
  refine vx_getI (pc := 1) dX6_add_1 fl_X6_7 p0.b p0.x p0.s rfl ?_
  refine fr_aload_n (pc := 4) dX6_add_4 0 rfl rfl ?_
  refine vx_getI (pc := 5) dX6_add_5 fl_X6_13 p0.b p0.x p0.s rfl ?_
  refine fr_icmp_lt (pc := 8) 13 dX6_add_8 (by decide) (fun c1 => ?_) (fun c1 => ?_)
  · have hf := fd_t c1 hf
    refine fr_aload_n (pc := 13) dX6_add_13 0 rfl rfl ?_
    refine fr_getR (pc := 14) dX6_add_14 fl_X6_21 p0.b p0.s rfl ?_
    refine fr_aload_n (pc := 17) dX6_add_17 0 rfl rfl ?_
    refine vx_getI (pc := 18) dX6_add_18 fl_X6_7 p0.b p0.x p0.s rfl ?_
    refine fr_iload_n (pc := 21) dX6_add_21 1 rfl rfl ?_
    obtain ⟨h3, hc2, hf⟩ := fd_bi hf
    refine fr_callVv (pc := 22) (av := [.int (h.1 k 2), .int a1]) dX6_add_22 yy_X3_set kw_94 p0.row.b p0.row.s rfl rfl rfl (Nat.le_of_ble_eq_true rfl) ⟨Nat.le_of_ble_eq_true rfl, Nat.le_of_ble_eq_true rfl, Nat.zero_le _, Nat.zero_le _⟩ (sX3_set p0.row hc2) ?_
    refine fr_aload_n (pc := 25) dX6_add_25 0 rfl rfl ?_
    refine fr_dup (pc := 26) dX6_add_26 rfl ?_
    refine vx_getI (pc := 27) dX6_add_27 fl_X6_7 p0.b p0.x p0.s rfl ?_
    refine fr_iconst (pc := 30) (v := (1 : Int32)) dX6_add_30 (by decide) ?_
    refine fr_iadd (pc := 31) dX6_add_31 ?_
    obtain ⟨h4, eh4, hf⟩ := fd_lt_e hf
    refine vx_putI (pc := 32) dX6_add_32 fl_X6_7 ft_X6_2 p0.b p0.x p0.s rfl eh4 ?_
    refine fr_iconst (pc := 35) (v := (1 : Int32)) dX6_add_35 (by decide) ?_
    exact vx_zretW (x := true) (pc := 36) dX6_add_36 rfl hf
  · have hf := fd_f c1 hf
    refine fr_iconst (pc := 11) (v := (0 : Int32)) dX6_add_11 (by decide) ?_
    exact vx_zretW (x := false) (pc := 12) dX6_add_12 rfl hf
theorem dX7_parse_0 : decode cX7_parse 0 = .ok (.aload_n 0, 1) := by decide +kernel
theorem dX7_parse_1 : decode cX7_parse 1 = .ok (.iload_n 2, 1) := by decide +kernel
theorem dX7_parse_2 : decode cX7_parse 2 = .ok (.bipush 40, 2) := by decide +kernel
theorem dX7_parse_4 : decode cX7_parse 4 = .ok (.invokestatic 64, 3) := by decide +kernel
theorem dX7_parse_7 : decode cX7_parse 7 = .ok (.putfield 40, 3) := by decide +kernel
theorem dX7_parse_10 : decode cX7_parse 10 = .ok (.iconst 0, 1) := by decide +kernel
theorem dX7_parse_11 : decode cX7_parse 11 = .ok (.istore_n 3, 1) := by decide +kernel
theorem dX7_parse_12 : decode cX7_parse 12 = .ok (.iload_n 3, 1) := by decide +kernel
theorem dX7_parse_13 : decode cX7_parse 13 = .ok (.aload_n 0, 1) := by decide +kernel
theorem dX7_parse_14 : decode cX7_parse 14 = .ok (.getfield 40, 3) := by decide +kernel
theorem dX7_parse_17 : decode cX7_parse 17 = .ok (.if_icmp .ge 28, 3) := by decide +kernel
theorem dX7_parse_20 : decode cX7_parse 20 = .ok (.aload_n 0, 1) := by decide +kernel
theorem dX7_parse_21 : decode cX7_parse 21 = .ok (.getfield 36, 3) := by decide +kernel
theorem dX7_parse_24 : decode cX7_parse 24 = .ok (.iload_n 3, 1) := by decide +kernel
theorem dX7_parse_25 : decode cX7_parse 25 = .ok (.aload_n 1, 1) := by decide +kernel
theorem dX7_parse_26 : decode cX7_parse 26 = .ok (.getfield 70, 3) := by decide +kernel
theorem dX7_parse_29 : decode cX7_parse 29 = .ok (.iload_n 3, 1) := by decide +kernel
theorem dX7_parse_30 : decode cX7_parse 30 = .ok (.invokevirtual 75, 3) := by decide +kernel
theorem dX7_parse_33 : decode cX7_parse 33 = .ok (.bipush 97, 2) := by decide +kernel
theorem dX7_parse_35 : decode cX7_parse 35 = .ok (.isub, 1) := by decide +kernel
theorem dX7_parse_36 : decode cX7_parse 36 = .ok (.invokevirtual 79, 3) := by decide +kernel
theorem dX7_parse_39 : decode cX7_parse 39 = .ok (.iinc 3 1, 3) := by decide +kernel
theorem dX7_parse_42 : decode cX7_parse 42 = .ok (.goto (-30), 3) := by decide +kernel
theorem dX7_parse_45 : decode cX7_parse 45 = .ok (.return_, 1) := by decide +kernel
def fX7_parse_L12 (k1 : Nat) (n1 : Nat) (a2 : Int32) : Nat → Int32 → fd_H → Option (fd_H)
  | 0 => fun _ _ => none
  | n + 1 => fun v3 h =>
if (h.1 11 5) ≤ v3 then (
some h)
else (
(fX3_at (k1 + 1) n1 v3 h).bind fun r3 =>
(fX3_set 40 40 v3 (r3 - (97 : Int32)) h).bind fun h5 =>
fX7_parse_L12 k1 n1 a2 n (v3 + (1 : Int32)) h5)
set_option maxRecDepth 100000 in
set_option maxHeartbeats 4000000 in
theorem sX7_parse_L12 {g : fd_G} {hm : fd_H} {k1 : Nat} {n1 : Nat} {a2 : Int32} {r : fd_H} (p1 : fd_isText k1 n1) : ∀ (n : Nat) (v3 : Int32) (h : fd_H), fX7_parse_L12 k1 n1 a2 n v3 h = some r → fd_A g mX7_parse fd_E (fd_rm 1 0 0) (fd_Q g none fd_X0 (fd_mx r hm) 0 0) 12 [(0, .ref (g.2.2.2 + 11)), (1, .ref (g.2.2.2 + k1)), (3, .int v3)] [] fd_X0 (fd_mx h hm) 0 0 := by
  intro n
  induction n with
  | zero =>
    intro _ _ hf
    cases hf
  | succ n ih =>
    intro v3 h hf
    rw [fX7_parse_L12] at hf
    refine fr_iload_n (pc := 12) dX7_parse_12 2 rfl rfl ?_
    refine fr_aload_n (pc := 13) dX7_parse_13 0 rfl rfl ?_
    refine vx_getI (pc := 14) dX7_parse_14 fl_X7_40 (by decide) (by decide) rfl rfl ?_
    refine fr_icmp_ge (pc := 17) 45 dX7_parse_17 (by decide) (fun c1 => ?_) (fun c1 => ?_)
    · have hf := fd_t c1 hf
      exact vx_vretW (pc := 45) dX7_parse_45 rfl hf
    · have hf := fd_f c1 hf
      refine fr_aload_n (pc := 20) dX7_parse_20 0 rfl rfl ?_
      refine fr_getR (pc := 21) dX7_parse_21 fl_X7_36 (by decide) rfl rfl ?_
      refine fr_iload_n (pc := 24) dX7_parse_24 2 rfl rfl ?_
      refine fr_aload_n (pc := 25) dX7_parse_25 1 rfl rfl ?_
      refine fr_getR (pc := 26) dX7_parse_26 fl_X7_70 p1.b p1.s rfl ?_
      refine fr_iload_n (pc := 29) dX7_parse_29 2 rfl rfl ?_
      obtain ⟨r3, hc2, hf⟩ := fd_bi hf
      refine fr_callVi (pc := 30) (av := [.int v3]) dX7_parse_30 yy_X3_at kw_99 p1.row.b p1.row.s rfl rfl rfl (Nat.le_of_ble_eq_true rfl) ⟨Nat.le_of_ble_eq_true rfl, Nat.le_of_ble_eq_true rfl, Nat.zero_le _, Nat.zero_le _⟩ (sX3_at p1.row hc2) ?_
      refine fr_bipush (pc := 33) (v := (97 : Int32)) dX7_parse_33 (by decide) ?_
      refine fr_isub (pc := 35) dX7_parse_35 ?_
      obtain ⟨h5, hc4, hf⟩ := fd_bi hf
      refine fr_callVv (pc := 36) (av := [.int v3, .int (r3 - (97 : Int32))]) dX7_parse_36 yy_X3_set kw_100 (by decide) rfl rfl rfl rfl (Nat.le_of_ble_eq_true rfl) ⟨Nat.le_of_ble_eq_true rfl, Nat.le_of_ble_eq_true rfl, Nat.zero_le _, Nat.zero_le _⟩ (sX3_set is_40 hc4) ?_
      refine fr_iinc (pc := 39) (v := (v3 + (1 : Int32))) (lv' := [(3, .int (v3 + (1 : Int32))), (0, .ref (g.2.2.2 + 11)), (1, .ref (g.2.2.2 + k1))]) dX7_parse_39 2 rfl rfl (by decide) rfl ?_
      refine fr_goto (pc := 42) 12 dX7_parse_42 (by decide) ?_
      refine fr_loc (lv' := [(0, .ref (g.2.2.2 + 11)), (1, .ref (g.2.2.2 + k1)), (3, .int (v3 + (1 : Int32)))]) [1, 2, 0] rfl ?_
      exact ih _ _ hf
def fX7_parse (k1 : Nat) (n1 : Nat) (a2 : Int32) (h : fd_H) : Option (fd_H) :=
fd_lt (fd_ui h 11 5 (fd_min a2 (40 : Int32))) fun h1 =>
fX7_parse_L12 k1 n1 a2 fd_fu (0 : Int32) h1
set_option maxRecDepth 100000 in
set_option maxHeartbeats 4000000 in
theorem sX7_parse {g : fd_G} {hm : fd_H} {k1 : Nat} {n1 : Nat} {a2 : Int32} {r : fd_H} (p1 : fd_isText k1 n1) {h : fd_H} (hf : fX7_parse k1 n1 a2 h = some r) : fd_S g mX7_parse 1 [.ref (g.2.2.2 + 11), .ref (g.2.2.2 + k1), .int a2] fd_X0 (fd_mx h hm) none fd_X0 (fd_mx r hm) 0 0 := by
  refine fd_S.of (by decide +kernel) (Nat.le_of_ble_eq_true rfl) ?_
  unfold fX7_parse at hf
  refine fr_loc (lv' := [(0, .ref (g.2.2.2 + 11)), (1, .ref (g.2.2.2 + k1)), (2, .int a2)]) [0, 1, 2] rfl ?_
  refine fr_aload_n (pc := 0) dX7_parse_0 0 rfl rfl ?_
  refine fr_iload_n (pc := 1) dX7_parse_1 2 rfl rfl ?_
  refine fr_bipush (pc := 2) (v := (40 : Int32)) dX7_parse_2 (by decide) ?_
  refine fr_min (pc := 4) dX7_parse_4 kw_95 (Nat.le_of_ble_eq_true rfl) (Nat.le_of_ble_eq_true rfl) (Nat.zero_le _) (Nat.zero_le _) ?_
  obtain ⟨h1, eh1, hf⟩ := fd_lt_e hf
  refine vx_putI (pc := 7) dX7_parse_7 fl_X7_40 ft_X7_5 (by decide) (by decide) rfl rfl eh1 ?_
  refine fr_iconst (pc := 10) (v := (0 : Int32)) dX7_parse_10 (by decide) ?_
  refine fr_istore_n (pc := 11) (lv' := [(3, .int (0 : Int32)), (0, .ref (g.2.2.2 + 11)), (1, .ref (g.2.2.2 + k1)), (2, .int a2)]) dX7_parse_11 rfl (by decide) rfl ?_
  refine fr_loc (lv' := [(0, .ref (g.2.2.2 + 11)), (1, .ref (g.2.2.2 + k1)), (3, .int (0 : Int32))]) [1, 2, 0] rfl ?_
  exact sX7_parse_L12 p1 _  _ _ hf
theorem dX7_isCold_0 : decode cX7_isCold 0 = .ok (.aload_n 0, 1) := by decide +kernel
theorem dX7_isCold_1 : decode cX7_isCold 1 = .ok (.getfield 12, 3) := by decide +kernel
theorem dX7_isCold_4 : decode cX7_isCold 4 = .ok (.getfield 103, 3) := by decide +kernel
theorem dX7_isCold_7 : decode cX7_isCold 7 = .ok (.iload_n 2, 1) := by decide +kernel
theorem dX7_isCold_8 : decode cX7_isCold 8 = .ok (.invokevirtual 75, 3) := by decide +kernel
theorem dX7_isCold_11 : decode cX7_isCold 11 = .ok (.iconst 3, 1) := by decide +kernel
theorem dX7_isCold_12 : decode cX7_isCold 12 = .ok (.if_icmp .ne 13, 3) := by decide +kernel
theorem dX7_isCold_15 : decode cX7_isCold 15 = .ok (.iload_n 1, 1) := by decide +kernel
theorem dX7_isCold_16 : decode cX7_isCold 16 = .ok (.bipush 20, 2) := by decide +kernel
theorem dX7_isCold_18 : decode cX7_isCold 18 = .ok (.if_icmp .ge 7, 3) := by decide +kernel
theorem dX7_isCold_21 : decode cX7_isCold 21 = .ok (.iconst 1, 1) := by decide +kernel
theorem dX7_isCold_22 : decode cX7_isCold 22 = .ok (.goto 4, 3) := by decide +kernel
theorem dX7_isCold_25 : decode cX7_isCold 25 = .ok (.iconst 0, 1) := by decide +kernel
theorem dX7_isCold_26 : decode cX7_isCold 26 = .ok (.istore 4, 2) := by decide +kernel
theorem dX7_isCold_28 : decode cX7_isCold 28 = .ok (.iload_n 3, 1) := by decide +kernel
theorem dX7_isCold_29 : decode cX7_isCold 29 = .ok (.aload_n 0, 1) := by decide +kernel
theorem dX7_isCold_30 : decode cX7_isCold 30 = .ok (.getfield 12, 3) := by decide +kernel
theorem dX7_isCold_33 : decode cX7_isCold 33 = .ok (.getfield 106, 3) := by decide +kernel
theorem dX7_isCold_36 : decode cX7_isCold 36 = .ok (.iload_n 2, 1) := by decide +kernel
theorem dX7_isCold_37 : decode cX7_isCold 37 = .ok (.invokevirtual 75, 3) := by decide +kernel
theorem dX7_isCold_40 : decode cX7_isCold 40 = .ok (.iadd, 1) := by decide +kernel
theorem dX7_isCold_41 : decode cX7_isCold 41 = .ok (.aload_n 0, 1) := by decide +kernel
theorem dX7_isCold_42 : decode cX7_isCold 42 = .ok (.getfield 44, 3) := by decide +kernel
theorem dX7_isCold_45 : decode cX7_isCold 45 = .ok (.if_icmp .ge 12, 3) := by decide +kernel
theorem dX7_isCold_48 : decode cX7_isCold 48 = .ok (.iload 4, 2) := by decide +kernel
theorem dX7_isCold_50 : decode cX7_isCold 50 = .ok (.ifCond .ne 7, 3) := by decide +kernel
theorem dX7_isCold_53 : decode cX7_isCold 53 = .ok (.iconst 1, 1) := by decide +kernel
theorem dX7_isCold_54 : decode cX7_isCold 54 = .ok (.goto 4, 3) := by decide +kernel
theorem dX7_isCold_57 : decode cX7_isCold 57 = .ok (.iconst 0, 1) := by decide +kernel
theorem dX7_isCold_58 : decode cX7_isCold 58 = .ok (.ireturn, 1) := by decide +kernel
def fX7_isCold_L26 (a1 : Int32) (a2 : Int32) (a3 : Int32) (h : fd_H) (vs0 : Bool) : Option (Bool) :=
(fX3_at 17 8 a2 h).bind fun r2 =>
if (h.1 11 6) ≤ (a3 + r2) then (
some (false))
else (
if vs0 = true then (
some (false))
else (
some (true)))
set_option maxRecDepth 100000 in
set_option maxHeartbeats 4000000 in
theorem sX7_isCold_L26 {g : fd_G} {hm : fd_H} {a1 : Int32} {a2 : Int32} {a3 : Int32} {h : fd_H} {r : Bool} : ∀ (vs0 : Bool), fX7_isCold_L26 a1 a2 a3 h vs0 = some r → fd_A g mX7_isCold fd_E (fd_rm 1 0 0) (fd_Q g (some (.int (fd_b r))) fd_X0 (fd_mx h hm) 0 0) 26 [(0, .ref (g.2.2.2 + 11)), (2, .int a2), (3, .int a3)] [.int (fd_b vs0)] fd_X0 (fd_mx h hm) 0 0 := by
  intro vs0 hf
  unfold fX7_isCold_L26 at hf
  refine fr_istore (pc := 26) (lv' := [(4, .int (fd_b vs0)), (0, .ref (g.2.2.2 + 11)), (2, .int a2), (3, .int a3)]) dX7_isCold_26 (by decide) rfl ?_
  refine fr_iload_n (pc := 28) dX7_isCold_28 3 rfl rfl ?_
  refine fr_aload_n (pc := 29) dX7_isCold_29 1 rfl rfl ?_
  refine fr_getR (pc := 30) dX7_isCold_30 fl_X7_12 (by decide) rfl rfl ?_
  refine fr_getR (pc := 33) dX7_isCold_33 fl_X7_106 (by decide) rfl rfl ?_
  refine fr_iload_n (pc := 36) dX7_isCold_36 2 rfl rfl ?_
  obtain ⟨r2, hc1, hf⟩ := fd_bi hf
  refine fr_callVi (pc := 37) (av := [.int a2]) dX7_isCold_37 yy_X3_at kw_99 (by decide) rfl rfl rfl rfl (Nat.le_of_ble_eq_true rfl) ⟨Nat.le_of_ble_eq_true rfl, Nat.le_of_ble_eq_true rfl, Nat.zero_le _, Nat.zero_le _⟩ (sX3_at is_17 hc1) ?_
  refine fr_iadd (pc := 40) dX7_isCold_40 ?_
  refine fr_aload_n (pc := 41) dX7_isCold_41 1 rfl rfl ?_
  refine vx_getI (pc := 42) dX7_isCold_42 fl_X7_44 (by decide) (by decide) rfl rfl ?_
  refine fr_icmp_ge (pc := 45) 57 dX7_isCold_45 (by decide) (fun c3 => ?_) (fun c3 => ?_)
  · have hf := fd_t c3 hf
    refine fr_iconst (pc := 57) (v := (0 : Int32)) dX7_isCold_57 (by decide) ?_
    exact fr_zretP (x := false) (pc := 58) dX7_isCold_58 rfl hf
  · have hf := fd_f c3 hf
    refine fr_iload (pc := 48) dX7_isCold_48 0 rfl ?_
    refine fr_bn (pc := 50) 57 dX7_isCold_50 (by decide) (fun c4 => ?_) (fun c4 => ?_)
    · have hf := fd_t c4 hf
      refine fr_iconst (pc := 57) (v := (0 : Int32)) dX7_isCold_57 (by decide) ?_
      exact fr_zretP (x := false) (pc := 58) dX7_isCold_58 rfl hf
    · have hf := fd_f c4 hf
      refine fr_iconst (pc := 53) (v := (1 : Int32)) dX7_isCold_53 (by decide) ?_
      refine fr_goto (pc := 54) 58 dX7_isCold_54 (by decide) ?_
      exact fr_zretP (x := true) (pc := 58) dX7_isCold_58 rfl hf
def fX7_isCold_L25 (a1 : Int32) (a2 : Int32) (a3 : Int32) (h : fd_H)  : Option (Bool) :=
fX7_isCold_L26 a1 a2 a3 h false
set_option maxRecDepth 100000 in
set_option maxHeartbeats 4000000 in
theorem sX7_isCold_L25 {g : fd_G} {hm : fd_H} {a1 : Int32} {a2 : Int32} {a3 : Int32} {h : fd_H} {r : Bool} : fX7_isCold_L25 a1 a2 a3 h  = some r → fd_A g mX7_isCold fd_E (fd_rm 1 0 0) (fd_Q g (some (.int (fd_b r))) fd_X0 (fd_mx h hm) 0 0) 25 [(0, .ref (g.2.2.2 + 11)), (2, .int a2), (3, .int a3)] [] fd_X0 (fd_mx h hm) 0 0 := by
  intro  hf
  unfold fX7_isCold_L25 at hf
  refine fr_iconst (pc := 25) (v := (0 : Int32)) dX7_isCold_25 (by decide) ?_
  refine fr_loc (lv' := [(0, .ref (g.2.2.2 + 11)), (2, .int a2), (3, .int a3)]) [0, 1, 2] rfl ?_
  exact sX7_isCold_L26  _ hf
def fX7_isCold (a1 : Int32) (a2 : Int32) (a3 : Int32) (h : fd_H) : Option (Bool) :=
(fX3_at 15 8 a2 h).bind fun r2 =>
if r2 = (3 : Int32) then (
if (20 : Int32) ≤ a1 then (
fX7_isCold_L25 a1 a2 a3 h )
else (
fX7_isCold_L26 a1 a2 a3 h true))
else (
fX7_isCold_L25 a1 a2 a3 h )
set_option maxRecDepth 100000 in
set_option maxHeartbeats 4000000 in
theorem sX7_isCold {g : fd_G} {hm : fd_H} {a1 : Int32} {a2 : Int32} {a3 : Int32} {h : fd_H} {r : Bool} (hf : fX7_isCold a1 a2 a3 h = some r) : fd_S g mX7_isCold 1 [.ref (g.2.2.2 + 11), .int a1, .int a2, .int a3] fd_X0 (fd_mx h hm) (some (.int (fd_b r))) fd_X0 (fd_mx h hm) 0 0 := by
  refine fd_S.of (by decide +kernel) (Nat.le_of_ble_eq_true rfl) ?_
  unfold fX7_isCold at hf
  refine fr_loc (lv' := [(0, .ref (g.2.2.2 + 11)), (1, .int a1), (2, .int a2), (3, .int a3)]) [0, 1, 2, 3] rfl ?_
  refine fr_aload_n (pc := 0) dX7_isCold_0 0 rfl rfl ?_
  refine fr_getR (pc := 1) dX7_isCold_1 fl_X7_12 (by decide) rfl rfl ?_
  refine fr_getR (pc := 4) dX7_isCold_4 fl_X7_103 (by decide) rfl rfl ?_
  refine fr_iload_n (pc := 7) dX7_isCold_7 2 rfl rfl ?_
  obtain ⟨r2, hc1, hf⟩ := fd_bi hf
  refine fr_callVi (pc := 8) (av := [.int a2]) dX7_isCold_8 yy_X3_at kw_99 (by decide) rfl rfl rfl rfl (Nat.le_of_ble_eq_true rfl) ⟨Nat.le_of_ble_eq_true rfl, Nat.le_of_ble_eq_true rfl, Nat.zero_le _, Nat.zero_le _⟩ (sX3_at is_15 hc1) ?_
  refine fr_iconst (pc := 11) (v := (3 : Int32)) dX7_isCold_11 (by decide) ?_
  refine fr_icmp_ne (pc := 12) 25 dX7_isCold_12 (by decide) (fun c3 => ?_) (fun c3 => ?_)
  · have hf := fd_f c3 hf
    refine fr_loc (lv' := [(0, .ref (g.2.2.2 + 11)), (2, .int a2), (3, .int a3)]) [0, 2, 3] rfl ?_
    exact sX7_isCold_L25   hf
  · have hf := fd_t c3 hf
    refine fr_iload_n (pc := 15) dX7_isCold_15 1 rfl rfl ?_
    refine fr_bipush (pc := 16) (v := (20 : Int32)) dX7_isCold_16 (by decide) ?_
    refine fr_icmp_ge (pc := 18) 25 dX7_isCold_18 (by decide) (fun c4 => ?_) (fun c4 => ?_)
    · have hf := fd_t c4 hf
      refine fr_loc (lv' := [(0, .ref (g.2.2.2 + 11)), (2, .int a2), (3, .int a3)]) [0, 2, 3] rfl ?_
      exact sX7_isCold_L25   hf
    · have hf := fd_f c4 hf
      refine fr_iconst (pc := 21) (v := (1 : Int32)) dX7_isCold_21 (by decide) ?_
      refine fr_goto (pc := 22) 26 dX7_isCold_22 (by decide) ?_
      refine fr_loc (lv' := [(0, .ref (g.2.2.2 + 11)), (2, .int a2), (3, .int a3)]) [0, 2, 3] rfl ?_
      exact sX7_isCold_L26  _ hf
theorem dX8_place_0 : decode cX8_place 0 = .ok (.aload_n 0, 1) := by decide +kernel
theorem dX8_place_1 : decode cX8_place 1 = .ok (.getfield 29, 3) := by decide +kernel
theorem dX8_place_4 : decode cX8_place 4 = .ok (.iload_n 1, 1) := by decide +kernel
theorem dX8_place_5 : decode cX8_place 5 = .ok (.invokevirtual 80, 3) := by decide +kernel
theorem dX8_place_8 : decode cX8_place 8 = .ok (.ifCond .eq 11, 3) := by decide +kernel
theorem dX8_place_11 : decode cX8_place 11 = .ok (.iload_n 2, 1) := by decide +kernel
theorem dX8_place_12 : decode cX8_place 12 = .ok (.iconst 2, 1) := by decide +kernel
theorem dX8_place_13 : decode cX8_place 13 = .ok (.invokestatic 62, 3) := by decide +kernel
theorem dX8_place_16 : decode cX8_place 16 = .ok (.ifCond .ne 6, 3) := by decide +kernel
theorem dX8_place_19 : decode cX8_place 19 = .ok (.bipush (-2), 2) := by decide +kernel
theorem dX8_place_21 : decode cX8_place 21 = .ok (.ireturn, 1) := by decide +kernel
theorem dX8_place_22 : decode cX8_place 22 = .ok (.iload_n 2, 1) := by decide +kernel
theorem dX8_place_23 : decode cX8_place 23 = .ok (.ifCond .ne 17, 3) := by decide +kernel
theorem dX8_place_26 : decode cX8_place 26 = .ok (.aload_n 0, 1) := by decide +kernel
theorem dX8_place_27 : decode cX8_place 27 = .ok (.getfield 29, 3) := by decide +kernel
theorem dX8_place_30 : decode cX8_place 30 = .ok (.getfield 85, 3) := by decide +kernel
theorem dX8_place_33 : decode cX8_place 33 = .ok (.iload_n 1, 1) := by decide +kernel
theorem dX8_place_34 : decode cX8_place 34 = .ok (.invokevirtual 89, 3) := by decide +kernel
theorem dX8_place_37 : decode cX8_place 37 = .ok (.goto 14, 3) := by decide +kernel
theorem dX8_place_40 : decode cX8_place 40 = .ok (.aload_n 0, 1) := by decide +kernel
theorem dX8_place_41 : decode cX8_place 41 = .ok (.getfield 29, 3) := by decide +kernel
theorem dX8_place_44 : decode cX8_place 44 = .ok (.getfield 95, 3) := by decide +kernel
theorem dX8_place_47 : decode cX8_place 47 = .ok (.iload_n 1, 1) := by decide +kernel
theorem dX8_place_48 : decode cX8_place 48 = .ok (.invokevirtual 89, 3) := by decide +kernel
theorem dX8_place_51 : decode cX8_place 51 = .ok (.ireturn, 1) := by decide +kernel
def fX8_place (a1 : Int32) (a2 : Int32) (h : fd_H) : Option (Int32) :=
(fX2_has a1 h).bind fun r2 =>
if r2 = true then (
(fX8_isBelow a2 (2 : Int32)).bind fun r5 =>
if r5 = true then (
if a2 = 0 then (
(fX3_at 13 8 a1 h).bind fun r11 =>
some (r11))
else (
(fX3_at 15 8 a1 h).bind fun r9 =>
some (r9)))
else (
some ((-2 : Int32))))
else (
some ((-2 : Int32)))
set_option maxRecDepth 100000 in
set_option maxHeartbeats 4000000 in
theorem sX8_place {g : fd_G} {hm : fd_H} {a1 : Int32} {a2 : Int32} {h : fd_H} {r : Int32} (hf : fX8_place a1 a2 h = some r) : fd_S g mX8_place 1 [.ref (g.2.2.2 + 0), .int a1, .int a2] fd_X0 (fd_mx h hm) (some (.int r)) fd_X0 (fd_mx h hm) 0 0 := by
  refine fd_S.of (by decide +kernel) (Nat.le_of_ble_eq_true rfl) ?_
  unfold fX8_place at hf
  refine fr_loc (lv' := [(0, .ref (g.2.2.2 + 0)), (1, .int a1), (2, .int a2)]) [0, 1, 2] rfl ?_
  refine fr_aload_n (pc := 0) dX8_place_0 0 rfl rfl ?_
  refine fr_getR (pc := 1) dX8_place_1 fl_X8_29 (by decide) rfl rfl ?_
  refine fr_iload_n (pc := 4) dX8_place_4 1 rfl rfl ?_
  obtain ⟨r2, hc1, hf⟩ := fd_bi hf
  refine fr_callVz (pc := 5) (av := [.int a1]) dX8_place_5 yy_X2_has kw_108 (by decide) rfl rfl rfl rfl (Nat.le_of_ble_eq_true rfl) ⟨Nat.le_of_ble_eq_true rfl, Nat.le_of_ble_eq_true rfl, Nat.zero_le _, Nat.zero_le _⟩ (sX2_has hc1) ?_
  refine fr_bz (pc := 8) 19 dX8_place_8 (by decide) (fun c3 => ?_) (fun c3 => ?_)
  · have hf := fd_f c3 hf
    refine fr_bipush (pc := 19) (v := (-2 : Int32)) dX8_place_19 (by decide) ?_
    exact fr_iretP (x := (-2 : Int32)) (pc := 21) dX8_place_21 rfl hf
  · have hf := fd_t c3 hf
    refine fr_iload_n (pc := 11) dX8_place_11 2 rfl rfl ?_
    refine fr_iconst (pc := 12) (v := (2 : Int32)) dX8_place_12 (by decide) ?_
    obtain ⟨r5, hc4, hf⟩ := fd_bi hf
    refine fr_callSz (pc := 13) (av := [.int a2, .int (2 : Int32)]) dX8_place_13 yy_X8_isBelow kw_111 rfl rfl (Nat.le_of_ble_eq_true rfl) ⟨Nat.le_of_ble_eq_true rfl, Nat.le_of_ble_eq_true rfl, Nat.zero_le _, Nat.zero_le _⟩ (sX8_isBelow hc4) ?_
    refine fr_bn (pc := 16) 22 dX8_place_16 (by decide) (fun c6 => ?_) (fun c6 => ?_)
    · have hf := fd_t c6 hf
      refine fr_iload_n (pc := 22) dX8_place_22 2 rfl rfl ?_
      refine fr_if_ne (pc := 23) 40 dX8_place_23 (by decide) (fun c7 => ?_) (fun c7 => ?_)
      · have hf := fd_f c7 hf
        refine fr_aload_n (pc := 40) dX8_place_40 0 rfl rfl ?_
        refine fr_getR (pc := 41) dX8_place_41 fl_X8_29 (by decide) rfl rfl ?_
        refine fr_getR (pc := 44) dX8_place_44 fl_X8_95 (by decide) rfl rfl ?_
        refine fr_iload_n (pc := 47) dX8_place_47 1 rfl rfl ?_
        obtain ⟨r9, hc8, hf⟩ := fd_bi hf
        refine fr_callVi (pc := 48) (av := [.int a1]) dX8_place_48 yy_X3_at kw_113 (by decide) rfl rfl rfl rfl (Nat.le_of_ble_eq_true rfl) ⟨Nat.le_of_ble_eq_true rfl, Nat.le_of_ble_eq_true rfl, Nat.zero_le _, Nat.zero_le _⟩ (sX3_at is_15 hc8) ?_
        exact fr_iretP (x := r9) (pc := 51) dX8_place_51 rfl hf
      · have hf := fd_t c7 hf
        refine fr_aload_n (pc := 26) dX8_place_26 0 rfl rfl ?_
        refine fr_getR (pc := 27) dX8_place_27 fl_X8_29 (by decide) rfl rfl ?_
        refine fr_getR (pc := 30) dX8_place_30 fl_X8_85 (by decide) rfl rfl ?_
        refine fr_iload_n (pc := 33) dX8_place_33 1 rfl rfl ?_
        obtain ⟨r11, hc10, hf⟩ := fd_bi hf
        refine fr_callVi (pc := 34) (av := [.int a1]) dX8_place_34 yy_X3_at kw_113 (by decide) rfl rfl rfl rfl (Nat.le_of_ble_eq_true rfl) ⟨Nat.le_of_ble_eq_true rfl, Nat.le_of_ble_eq_true rfl, Nat.zero_le _, Nat.zero_le _⟩ (sX3_at is_13 hc10) ?_
        refine fr_goto (pc := 37) 51 dX8_place_37 (by decide) ?_
        exact fr_iretP (x := r11) (pc := 51) dX8_place_51 rfl hf
    · have hf := fd_f c6 hf
      refine fr_bipush (pc := 19) (v := (-2 : Int32)) dX8_place_19 (by decide) ?_
      exact fr_iretP (x := (-2 : Int32)) (pc := 21) dX8_place_21 rfl hf
theorem dX8_warm_0 : decode cX8_warm 0 = .ok (.iload_n 1, 1) := by decide +kernel
theorem dX8_warm_1 : decode cX8_warm 1 = .ok (.aload_n 0, 1) := by decide +kernel
theorem dX8_warm_2 : decode cX8_warm 2 = .ok (.getfield 21, 3) := by decide +kernel
theorem dX8_warm_5 : decode cX8_warm 5 = .ok (.getfield 98, 3) := by decide +kernel
theorem dX8_warm_8 : decode cX8_warm 8 = .ok (.invokestatic 62, 3) := by decide +kernel
theorem dX8_warm_11 : decode cX8_warm 11 = .ok (.ifCond .eq 17, 3) := by decide +kernel
theorem dX8_warm_14 : decode cX8_warm 14 = .ok (.aload_n 0, 1) := by decide +kernel
theorem dX8_warm_15 : decode cX8_warm 15 = .ok (.getfield 21, 3) := by decide +kernel
theorem dX8_warm_18 : decode cX8_warm 18 = .ok (.getfield 101, 3) := by decide +kernel
theorem dX8_warm_21 : decode cX8_warm 21 = .ok (.iload_n 1, 1) := by decide +kernel
theorem dX8_warm_22 : decode cX8_warm 22 = .ok (.invokevirtual 89, 3) := by decide +kernel
theorem dX8_warm_25 : decode cX8_warm 25 = .ok (.goto 5, 3) := by decide +kernel
theorem dX8_warm_28 : decode cX8_warm 28 = .ok (.bipush (-2), 2) := by decide +kernel
theorem dX8_warm_30 : decode cX8_warm 30 = .ok (.ireturn, 1) := by decide +kernel
def fX8_warm (a1 : Int32) (h : fd_H) : Option (Int32) :=
(fX8_isBelow a1 (h.1 11 5)).bind fun r2 =>
if r2 = true then (
(fX3_at 40 40 a1 h).bind fun r5 =>
some (r5))
else (
some ((-2 : Int32)))
set_option maxRecDepth 100000 in
set_option maxHeartbeats 4000000 in
theorem sX8_warm {g : fd_G} {hm : fd_H} {a1 : Int32} {h : fd_H} {r : Int32} (hf : fX8_warm a1 h = some r) : fd_S g mX8_warm 1 [.ref (g.2.2.2 + 0), .int a1] fd_X0 (fd_mx h hm) (some (.int r)) fd_X0 (fd_mx h hm) 0 0 := by
  refine fd_S.of (by decide +kernel) (Nat.le_of_ble_eq_true rfl) ?_
  unfold fX8_warm at hf
  refine fr_loc (lv' := [(0, .ref (g.2.2.2 + 0)), (1, .int a1)]) [0, 1] rfl ?_
  refine fr_iload_n (pc := 0) dX8_warm_0 1 rfl rfl ?_
  refine fr_aload_n (pc := 1) dX8_warm_1 0 rfl rfl ?_
  refine fr_getR (pc := 2) dX8_warm_2 fl_X8_21 (by decide) rfl rfl ?_
  refine vx_getI (pc := 5) dX8_warm_5 fl_X8_98 (by decide) (by decide) rfl rfl ?_
  obtain ⟨r2, hc1, hf⟩ := fd_bi hf
  refine fr_callSz (pc := 8) (av := [.int a1, .int (h.1 11 5)]) dX8_warm_8 yy_X8_isBelow kw_111 rfl rfl (Nat.le_of_ble_eq_true rfl) ⟨Nat.le_of_ble_eq_true rfl, Nat.le_of_ble_eq_true rfl, Nat.zero_le _, Nat.zero_le _⟩ (sX8_isBelow hc1) ?_
  refine fr_bz (pc := 11) 28 dX8_warm_11 (by decide) (fun c3 => ?_) (fun c3 => ?_)
  · have hf := fd_f c3 hf
    refine fr_bipush (pc := 28) (v := (-2 : Int32)) dX8_warm_28 (by decide) ?_
    exact fr_iretP (x := (-2 : Int32)) (pc := 30) dX8_warm_30 rfl hf
  · have hf := fd_t c3 hf
    refine fr_aload_n (pc := 14) dX8_warm_14 0 rfl rfl ?_
    refine fr_getR (pc := 15) dX8_warm_15 fl_X8_21 (by decide) rfl rfl ?_
    refine fr_getR (pc := 18) dX8_warm_18 fl_X8_101 (by decide) rfl rfl ?_
    refine fr_iload_n (pc := 21) dX8_warm_21 1 rfl rfl ?_
    obtain ⟨r5, hc4, hf⟩ := fd_bi hf
    refine fr_callVi (pc := 22) (av := [.int a1]) dX8_warm_22 yy_X3_at kw_113 (by decide) rfl rfl rfl rfl (Nat.le_of_ble_eq_true rfl) ⟨Nat.le_of_ble_eq_true rfl, Nat.le_of_ble_eq_true rfl, Nat.zero_le _, Nat.zero_le _⟩ (sX3_at is_40 hc4) ?_
    refine fr_goto (pc := 25) 30 dX8_warm_25 (by decide) ?_
    exact fr_iretP (x := r5) (pc := 30) dX8_warm_30 rfl hf
theorem dX8_warmth_0 : decode cX8_warmth 0 = .ok (.iload_n 1, 1) := by decide +kernel
theorem dX8_warmth_1 : decode cX8_warmth 1 = .ok (.aload_n 0, 1) := by decide +kernel
theorem dX8_warmth_2 : decode cX8_warmth 2 = .ok (.getfield 21, 3) := by decide +kernel
theorem dX8_warmth_5 : decode cX8_warmth 5 = .ok (.getfield 98, 3) := by decide +kernel
theorem dX8_warmth_8 : decode cX8_warmth 8 = .ok (.invokestatic 62, 3) := by decide +kernel
theorem dX8_warmth_11 : decode cX8_warmth 11 = .ok (.ifCond .eq 14, 3) := by decide +kernel
theorem dX8_warmth_14 : decode cX8_warmth 14 = .ok (.aload_n 0, 1) := by decide +kernel
theorem dX8_warmth_15 : decode cX8_warmth 15 = .ok (.getfield 29, 3) := by decide +kernel
theorem dX8_warmth_18 : decode cX8_warmth 18 = .ok (.iload_n 2, 1) := by decide +kernel
theorem dX8_warmth_19 : decode cX8_warmth 19 = .ok (.invokevirtual 80, 3) := by decide +kernel
theorem dX8_warmth_22 : decode cX8_warmth 22 = .ok (.ifCond .ne 7, 3) := by decide +kernel
theorem dX8_warmth_25 : decode cX8_warmth 25 = .ok (.sipush (-1002), 3) := by decide +kernel
theorem dX8_warmth_28 : decode cX8_warmth 28 = .ok (.ireturn, 1) := by decide +kernel
theorem dX8_warmth_29 : decode cX8_warmth 29 = .ok (.aload_n 0, 1) := by decide +kernel
theorem dX8_warmth_30 : decode cX8_warmth 30 = .ok (.getfield 21, 3) := by decide +kernel
theorem dX8_warmth_33 : decode cX8_warmth 33 = .ok (.getfield 101, 3) := by decide +kernel
theorem dX8_warmth_36 : decode cX8_warmth 36 = .ok (.iload_n 1, 1) := by decide +kernel
theorem dX8_warmth_37 : decode cX8_warmth 37 = .ok (.invokevirtual 89, 3) := by decide +kernel
theorem dX8_warmth_40 : decode cX8_warmth 40 = .ok (.aload_n 0, 1) := by decide +kernel
theorem dX8_warmth_41 : decode cX8_warmth 41 = .ok (.getfield 29, 3) := by decide +kernel
theorem dX8_warmth_44 : decode cX8_warmth 44 = .ok (.getfield 131, 3) := by decide +kernel
theorem dX8_warmth_47 : decode cX8_warmth 47 = .ok (.iload_n 2, 1) := by decide +kernel
theorem dX8_warmth_48 : decode cX8_warmth 48 = .ok (.invokevirtual 89, 3) := by decide +kernel
theorem dX8_warmth_51 : decode cX8_warmth 51 = .ok (.iadd, 1) := by decide +kernel
theorem dX8_warmth_52 : decode cX8_warmth 52 = .ok (.ireturn, 1) := by decide +kernel
def fX8_warmth (a1 : Int32) (a2 : Int32) (h : fd_H) : Option (Int32) :=
(fX8_isBelow a1 (h.1 11 5)).bind fun r2 =>
if r2 = true then (
(fX2_has a2 h).bind fun r5 =>
if r5 = true then (
(fX3_at 40 40 a1 h).bind fun r8 =>
(fX3_at 17 8 a2 h).bind fun r10 =>
some ((r8 + r10)))
else (
some ((-1002 : Int32))))
else (
some ((-1002 : Int32)))
set_option maxRecDepth 100000 in
set_option maxHeartbeats 4000000 in
theorem sX8_warmth {g : fd_G} {hm : fd_H} {a1 : Int32} {a2 : Int32} {h : fd_H} {r : Int32} (hf : fX8_warmth a1 a2 h = some r) : fd_S g mX8_warmth 1 [.ref (g.2.2.2 + 0), .int a1, .int a2] fd_X0 (fd_mx h hm) (some (.int r)) fd_X0 (fd_mx h hm) 0 0 := by
  refine fd_S.of (by decide +kernel) (Nat.le_of_ble_eq_true rfl) ?_
  unfold fX8_warmth at hf
  refine fr_loc (lv' := [(0, .ref (g.2.2.2 + 0)), (1, .int a1), (2, .int a2)]) [0, 1, 2] rfl ?_
  refine fr_iload_n (pc := 0) dX8_warmth_0 1 rfl rfl ?_
  refine fr_aload_n (pc := 1) dX8_warmth_1 0 rfl rfl ?_
  refine fr_getR (pc := 2) dX8_warmth_2 fl_X8_21 (by decide) rfl rfl ?_
  refine vx_getI (pc := 5) dX8_warmth_5 fl_X8_98 (by decide) (by decide) rfl rfl ?_
  obtain ⟨r2, hc1, hf⟩ := fd_bi hf
  refine fr_callSz (pc := 8) (av := [.int a1, .int (h.1 11 5)]) dX8_warmth_8 yy_X8_isBelow kw_111 rfl rfl (Nat.le_of_ble_eq_true rfl) ⟨Nat.le_of_ble_eq_true rfl, Nat.le_of_ble_eq_true rfl, Nat.zero_le _, Nat.zero_le _⟩ (sX8_isBelow hc1) ?_
  refine fr_bz (pc := 11) 25 dX8_warmth_11 (by decide) (fun c3 => ?_) (fun c3 => ?_)
  · have hf := fd_f c3 hf
    refine fr_sipush (pc := 25) (v := (-1002 : Int32)) dX8_warmth_25 (by decide) ?_
    exact fr_iretP (x := (-1002 : Int32)) (pc := 28) dX8_warmth_28 rfl hf
  · have hf := fd_t c3 hf
    refine fr_aload_n (pc := 14) dX8_warmth_14 0 rfl rfl ?_
    refine fr_getR (pc := 15) dX8_warmth_15 fl_X8_29 (by decide) rfl rfl ?_
    refine fr_iload_n (pc := 18) dX8_warmth_18 2 rfl rfl ?_
    obtain ⟨r5, hc4, hf⟩ := fd_bi hf
    refine fr_callVz (pc := 19) (av := [.int a2]) dX8_warmth_19 yy_X2_has kw_108 (by decide) rfl rfl rfl rfl (Nat.le_of_ble_eq_true rfl) ⟨Nat.le_of_ble_eq_true rfl, Nat.le_of_ble_eq_true rfl, Nat.zero_le _, Nat.zero_le _⟩ (sX2_has hc4) ?_
    refine fr_bn (pc := 22) 29 dX8_warmth_22 (by decide) (fun c6 => ?_) (fun c6 => ?_)
    · have hf := fd_t c6 hf
      refine fr_aload_n (pc := 29) dX8_warmth_29 0 rfl rfl ?_
      refine fr_getR (pc := 30) dX8_warmth_30 fl_X8_21 (by decide) rfl rfl ?_
      refine fr_getR (pc := 33) dX8_warmth_33 fl_X8_101 (by decide) rfl rfl ?_
      refine fr_iload_n (pc := 36) dX8_warmth_36 1 rfl rfl ?_
      obtain ⟨r8, hc7, hf⟩ := fd_bi hf
      refine fr_callVi (pc := 37) (av := [.int a1]) dX8_warmth_37 yy_X3_at kw_113 (by decide) rfl rfl rfl rfl (Nat.le_of_ble_eq_true rfl) ⟨Nat.le_of_ble_eq_true rfl, Nat.le_of_ble_eq_true rfl, Nat.zero_le _, Nat.zero_le _⟩ (sX3_at is_40 hc7) ?_
      refine fr_aload_n (pc := 40) dX8_warmth_40 0 rfl rfl ?_
      refine fr_getR (pc := 41) dX8_warmth_41 fl_X8_29 (by decide) rfl rfl ?_
      refine fr_getR (pc := 44) dX8_warmth_44 fl_X8_131 (by decide) rfl rfl ?_
      refine fr_iload_n (pc := 47) dX8_warmth_47 2 rfl rfl ?_
      obtain ⟨r10, hc9, hf⟩ := fd_bi hf
      refine fr_callVi (pc := 48) (av := [.int a2]) dX8_warmth_48 yy_X3_at kw_113 (by decide) rfl rfl rfl rfl (Nat.le_of_ble_eq_true rfl) ⟨Nat.le_of_ble_eq_true rfl, Nat.le_of_ble_eq_true rfl, Nat.zero_le _, Nat.zero_le _⟩ (sX3_at is_17 hc9) ?_
      refine fr_iadd (pc := 51) dX8_warmth_51 ?_
      exact fr_iretP (x := (r8 + r10)) (pc := 52) dX8_warmth_52 rfl hf
    · have hf := fd_f c6 hf
      refine fr_sipush (pc := 25) (v := (-1002 : Int32)) dX8_warmth_25 (by decide) ?_
      exact fr_iretP (x := (-1002 : Int32)) (pc := 28) dX8_warmth_28 rfl hf
theorem dX8_freezes_0 : decode cX8_freezes 0 = .ok (.iload_n 1, 1) := by decide +kernel
theorem dX8_freezes_1 : decode cX8_freezes 1 = .ok (.aload_n 0, 1) := by decide +kernel
theorem dX8_freezes_2 : decode cX8_freezes 2 = .ok (.getfield 21, 3) := by decide +kernel
theorem dX8_freezes_5 : decode cX8_freezes 5 = .ok (.getfield 98, 3) := by decide +kernel
theorem dX8_freezes_8 : decode cX8_freezes 8 = .ok (.invokestatic 62, 3) := by decide +kernel
theorem dX8_freezes_11 : decode cX8_freezes 11 = .ok (.ifCond .eq 14, 3) := by decide +kernel
theorem dX8_freezes_14 : decode cX8_freezes 14 = .ok (.aload_n 0, 1) := by decide +kernel
theorem dX8_freezes_15 : decode cX8_freezes 15 = .ok (.getfield 29, 3) := by decide +kernel
theorem dX8_freezes_18 : decode cX8_freezes 18 = .ok (.iload_n 2, 1) := by decide +kernel
theorem dX8_freezes_19 : decode cX8_freezes 19 = .ok (.invokevirtual 80, 3) := by decide +kernel
theorem dX8_freezes_22 : decode cX8_freezes 22 = .ok (.ifCond .ne 6, 3) := by decide +kernel
theorem dX8_freezes_25 : decode cX8_freezes 25 = .ok (.bipush (-2), 2) := by decide +kernel
theorem dX8_freezes_27 : decode cX8_freezes 27 = .ok (.ireturn, 1) := by decide +kernel
theorem dX8_freezes_28 : decode cX8_freezes 28 = .ok (.aload_n 0, 1) := by decide +kernel
theorem dX8_freezes_29 : decode cX8_freezes 29 = .ok (.getfield 21, 3) := by decide +kernel
theorem dX8_freezes_32 : decode cX8_freezes 32 = .ok (.getfield 134, 3) := by decide +kernel
theorem dX8_freezes_35 : decode cX8_freezes 35 = .ok (.iload_n 2, 1) := by decide +kernel
theorem dX8_freezes_36 : decode cX8_freezes 36 = .ok (.invokevirtual 137, 3) := by decide +kernel
theorem dX8_freezes_39 : decode cX8_freezes 39 = .ok (.iload_n 1, 1) := by decide +kernel
theorem dX8_freezes_40 : decode cX8_freezes 40 = .ok (.invokestatic 140, 3) := by decide +kernel
theorem dX8_freezes_43 : decode cX8_freezes 43 = .ok (.ifCond .eq 5, 3) := by decide +kernel
theorem dX8_freezes_46 : decode cX8_freezes 46 = .ok (.iconst 2, 1) := by decide +kernel
theorem dX8_freezes_47 : decode cX8_freezes 47 = .ok (.ireturn, 1) := by decide +kernel
theorem dX8_freezes_48 : decode cX8_freezes 48 = .ok (.aload_n 0, 1) := by decide +kernel
theorem dX8_freezes_49 : decode cX8_freezes 49 = .ok (.getfield 21, 3) := by decide +kernel
theorem dX8_freezes_52 : decode cX8_freezes 52 = .ok (.getfield 144, 3) := by decide +kernel
theorem dX8_freezes_55 : decode cX8_freezes 55 = .ok (.iload_n 2, 1) := by decide +kernel
theorem dX8_freezes_56 : decode cX8_freezes 56 = .ok (.invokevirtual 137, 3) := by decide +kernel
theorem dX8_freezes_59 : decode cX8_freezes 59 = .ok (.iload_n 1, 1) := by decide +kernel
theorem dX8_freezes_60 : decode cX8_freezes 60 = .ok (.invokestatic 140, 3) := by decide +kernel
theorem dX8_freezes_63 : decode cX8_freezes 63 = .ok (.ifCond .eq 7, 3) := by decide +kernel
theorem dX8_freezes_66 : decode cX8_freezes 66 = .ok (.iconst 1, 1) := by decide +kernel
theorem dX8_freezes_67 : decode cX8_freezes 67 = .ok (.goto 4, 3) := by decide +kernel
theorem dX8_freezes_70 : decode cX8_freezes 70 = .ok (.iconst 0, 1) := by decide +kernel
theorem dX8_freezes_71 : decode cX8_freezes 71 = .ok (.ireturn, 1) := by decide +kernel
def fX8_freezes (a1 : Int32) (a2 : Int32) (h : fd_H) : Option (Int32) :=
(fX8_isBelow a1 (h.1 11 5)).bind fun r2 =>
if r2 = true then (
(fX2_has a2 h).bind fun r5 =>
if r5 = true then (
(fX5_at 44 a2 h).bind fun r8 =>
(fX8_hasBit r8 a1).bind fun r10 =>
if r10 = true then (
some ((2 : Int32)))
else (
(fX5_at 46 a2 h).bind fun r13 =>
(fX8_hasBit r13 a1).bind fun r15 =>
if r15 = true then (
some ((1 : Int32)))
else (
some ((0 : Int32)))))
else (
some ((-2 : Int32))))
else (
some ((-2 : Int32)))
set_option maxRecDepth 100000 in
set_option maxHeartbeats 4000000 in
theorem sX8_freezes {g : fd_G} {hm : fd_H} {a1 : Int32} {a2 : Int32} {h : fd_H} {r : Int32} (hf : fX8_freezes a1 a2 h = some r) : fd_S g mX8_freezes 1 [.ref (g.2.2.2 + 0), .int a1, .int a2] fd_X0 (fd_mx h hm) (some (.int r)) fd_X0 (fd_mx h hm) 0 0 := by
  refine fd_S.of (by decide +kernel) (Nat.le_of_ble_eq_true rfl) ?_
  unfold fX8_freezes at hf
  refine fr_loc (lv' := [(0, .ref (g.2.2.2 + 0)), (1, .int a1), (2, .int a2)]) [0, 1, 2] rfl ?_
  refine fr_iload_n (pc := 0) dX8_freezes_0 1 rfl rfl ?_
  refine fr_aload_n (pc := 1) dX8_freezes_1 0 rfl rfl ?_
  refine fr_getR (pc := 2) dX8_freezes_2 fl_X8_21 (by decide) rfl rfl ?_
  refine vx_getI (pc := 5) dX8_freezes_5 fl_X8_98 (by decide) (by decide) rfl rfl ?_
  obtain ⟨r2, hc1, hf⟩ := fd_bi hf
  refine fr_callSz (pc := 8) (av := [.int a1, .int (h.1 11 5)]) dX8_freezes_8 yy_X8_isBelow kw_111 rfl rfl (Nat.le_of_ble_eq_true rfl) ⟨Nat.le_of_ble_eq_true rfl, Nat.le_of_ble_eq_true rfl, Nat.zero_le _, Nat.zero_le _⟩ (sX8_isBelow hc1) ?_
  refine fr_bz (pc := 11) 25 dX8_freezes_11 (by decide) (fun c3 => ?_) (fun c3 => ?_)
  · have hf := fd_f c3 hf
    refine fr_bipush (pc := 25) (v := (-2 : Int32)) dX8_freezes_25 (by decide) ?_
    exact fr_iretP (x := (-2 : Int32)) (pc := 27) dX8_freezes_27 rfl hf
  · have hf := fd_t c3 hf
    refine fr_aload_n (pc := 14) dX8_freezes_14 0 rfl rfl ?_
    refine fr_getR (pc := 15) dX8_freezes_15 fl_X8_29 (by decide) rfl rfl ?_
    refine fr_iload_n (pc := 18) dX8_freezes_18 2 rfl rfl ?_
    obtain ⟨r5, hc4, hf⟩ := fd_bi hf
    refine fr_callVz (pc := 19) (av := [.int a2]) dX8_freezes_19 yy_X2_has kw_108 (by decide) rfl rfl rfl rfl (Nat.le_of_ble_eq_true rfl) ⟨Nat.le_of_ble_eq_true rfl, Nat.le_of_ble_eq_true rfl, Nat.zero_le _, Nat.zero_le _⟩ (sX2_has hc4) ?_
    refine fr_bn (pc := 22) 28 dX8_freezes_22 (by decide) (fun c6 => ?_) (fun c6 => ?_)
    · have hf := fd_t c6 hf
      refine fr_aload_n (pc := 28) dX8_freezes_28 0 rfl rfl ?_
      refine fr_getR (pc := 29) dX8_freezes_29 fl_X8_21 (by decide) rfl rfl ?_
      refine fr_getR (pc := 32) dX8_freezes_32 fl_X8_134 (by decide) rfl rfl ?_
      refine fr_iload_n (pc := 35) dX8_freezes_35 2 rfl rfl ?_
      obtain ⟨r8, hc7, hf⟩ := fd_bi hf
      refine fr_callVl (pc := 36) (av := [.int a2]) dX8_freezes_36 yy_X5_at kw_118 (by decide) rfl rfl rfl rfl (Nat.le_of_ble_eq_true rfl) ⟨Nat.le_of_ble_eq_true rfl, Nat.le_of_ble_eq_true rfl, Nat.zero_le _, Nat.zero_le _⟩ (sX5_at is_44 hc7) ?_
      refine fr_iload_n (pc := 39) dX8_freezes_39 1 rfl rfl ?_
      obtain ⟨r10, hc9, hf⟩ := fd_bi hf
      refine fr_callSz (pc := 40) (av := [.long r8, .int a1]) dX8_freezes_40 yy_X8_hasBit kw_121 rfl rfl (Nat.le_of_ble_eq_true rfl) ⟨Nat.le_of_ble_eq_true rfl, Nat.le_of_ble_eq_true rfl, Nat.zero_le _, Nat.zero_le _⟩ (sX8_hasBit hc9) ?_
      refine fr_bz (pc := 43) 48 dX8_freezes_43 (by decide) (fun c11 => ?_) (fun c11 => ?_)
      · have hf := fd_f c11 hf
        refine fr_aload_n (pc := 48) dX8_freezes_48 0 rfl rfl ?_
        refine fr_getR (pc := 49) dX8_freezes_49 fl_X8_21 (by decide) rfl rfl ?_
        refine fr_getR (pc := 52) dX8_freezes_52 fl_X8_144 (by decide) rfl rfl ?_
        refine fr_iload_n (pc := 55) dX8_freezes_55 2 rfl rfl ?_
        obtain ⟨r13, hc12, hf⟩ := fd_bi hf
        refine fr_callVl (pc := 56) (av := [.int a2]) dX8_freezes_56 yy_X5_at kw_118 (by decide) rfl rfl rfl rfl (Nat.le_of_ble_eq_true rfl) ⟨Nat.le_of_ble_eq_true rfl, Nat.le_of_ble_eq_true rfl, Nat.zero_le _, Nat.zero_le _⟩ (sX5_at is_46 hc12) ?_
        refine fr_iload_n (pc := 59) dX8_freezes_59 1 rfl rfl ?_
        obtain ⟨r15, hc14, hf⟩ := fd_bi hf
        refine fr_callSz (pc := 60) (av := [.long r13, .int a1]) dX8_freezes_60 yy_X8_hasBit kw_121 rfl rfl (Nat.le_of_ble_eq_true rfl) ⟨Nat.le_of_ble_eq_true rfl, Nat.le_of_ble_eq_true rfl, Nat.zero_le _, Nat.zero_le _⟩ (sX8_hasBit hc14) ?_
        refine fr_bz (pc := 63) 70 dX8_freezes_63 (by decide) (fun c16 => ?_) (fun c16 => ?_)
        · have hf := fd_f c16 hf
          refine fr_iconst (pc := 70) (v := (0 : Int32)) dX8_freezes_70 (by decide) ?_
          exact fr_iretP (x := (0 : Int32)) (pc := 71) dX8_freezes_71 rfl hf
        · have hf := fd_t c16 hf
          refine fr_iconst (pc := 66) (v := (1 : Int32)) dX8_freezes_66 (by decide) ?_
          refine fr_goto (pc := 67) 71 dX8_freezes_67 (by decide) ?_
          exact fr_iretP (x := (1 : Int32)) (pc := 71) dX8_freezes_71 rfl hf
      · have hf := fd_t c11 hf
        refine fr_iconst (pc := 46) (v := (2 : Int32)) dX8_freezes_46 (by decide) ?_
        exact fr_iretP (x := (2 : Int32)) (pc := 47) dX8_freezes_47 rfl hf
    · have hf := fd_f c6 hf
      refine fr_bipush (pc := 25) (v := (-2 : Int32)) dX8_freezes_25 (by decide) ?_
      exact fr_iretP (x := (-2 : Int32)) (pc := 27) dX8_freezes_27 rfl hf
theorem dX8_lose_0 : decode cX8_lose 0 = .ok (.iload_n 1, 1) := by decide +kernel
theorem dX8_lose_1 : decode cX8_lose 1 = .ok (.iconst 4, 1) := by decide +kernel
theorem dX8_lose_2 : decode cX8_lose 2 = .ok (.invokestatic 62, 3) := by decide +kernel
theorem dX8_lose_5 : decode cX8_lose 5 = .ok (.ifCond .ne 6, 3) := by decide +kernel
theorem dX8_lose_8 : decode cX8_lose 8 = .ok (.bipush (-2), 2) := by decide +kernel
theorem dX8_lose_10 : decode cX8_lose 10 = .ok (.ireturn, 1) := by decide +kernel
theorem dX8_lose_11 : decode cX8_lose 11 = .ok (.aload_n 0, 1) := by decide +kernel
theorem dX8_lose_12 : decode cX8_lose 12 = .ok (.getfield 54, 3) := by decide +kernel
theorem dX8_lose_15 : decode cX8_lose 15 = .ok (.iload_n 1, 1) := by decide +kernel
theorem dX8_lose_16 : decode cX8_lose 16 = .ok (.aaload, 1) := by decide +kernel
theorem dX8_lose_17 : decode cX8_lose 17 = .ok (.getfield 192, 3) := by decide +kernel
theorem dX8_lose_20 : decode cX8_lose 20 = .ok (.ifCond .eq 9, 3) := by decide +kernel
theorem dX8_lose_23 : decode cX8_lose 23 = .ok (.aload_n 0, 1) := by decide +kernel
theorem dX8_lose_24 : decode cX8_lose 24 = .ok (.iconst 1, 1) := by decide +kernel
theorem dX8_lose_25 : decode cX8_lose 25 = .ok (.invokevirtual 196, 3) := by decide +kernel
theorem dX8_lose_28 : decode cX8_lose 28 = .ok (.ireturn, 1) := by decide +kernel
theorem dX8_lose_29 : decode cX8_lose 29 = .ok (.aload_n 0, 1) := by decide +kernel
theorem dX8_lose_30 : decode cX8_lose 30 = .ok (.getfield 54, 3) := by decide +kernel
theorem dX8_lose_33 : decode cX8_lose 33 = .ok (.iload_n 1, 1) := by decide +kernel
theorem dX8_lose_34 : decode cX8_lose 34 = .ok (.aaload, 1) := by decide +kernel
theorem dX8_lose_35 : decode cX8_lose 35 = .ok (.iconst 1, 1) := by decide +kernel
theorem dX8_lose_36 : decode cX8_lose 36 = .ok (.putfield 192, 3) := by decide +kernel
theorem dX8_lose_39 : decode cX8_lose 39 = .ok (.aload_n 0, 1) := by decide +kernel
theorem dX8_lose_40 : decode cX8_lose 40 = .ok (.getfield 54, 3) := by decide +kernel
theorem dX8_lose_43 : decode cX8_lose 43 = .ok (.iload_n 1, 1) := by decide +kernel
theorem dX8_lose_44 : decode cX8_lose 44 = .ok (.aaload, 1) := by decide +kernel
theorem dX8_lose_45 : decode cX8_lose 45 = .ok (.getfield 199, 3) := by decide +kernel
theorem dX8_lose_48 : decode cX8_lose 48 = .ok (.ireturn, 1) := by decide +kernel
def fX8_lose (a1 : Int32) (h : fd_H) : Option (Int32 × fd_H) :=
(fX8_isBelow a1 (4 : Int32)).bind fun r2 =>
if r2 = true then (
fd_g (fd_in a1 4) (
if (h.1 (61 + 3 * a1.toNatClampNeg) 1) = 0 then (
fd_g (fd_in a1 4) (
fd_lt (fd_ui h (61 + 3 * a1.toNatClampNeg) 1 (fd_b true)) fun h7 =>
fd_g (fd_in a1 4) (
some ((h7.1 (61 + 3 * a1.toNatClampNeg) 3), h7))))
else (
(fX8_find (1 : Int32) h).bind fun q10 =>
some (q10.1, q10.2))))
else (
some ((-2 : Int32), h))
set_option maxRecDepth 100000 in
set_option maxHeartbeats 4000000 in
theorem sX8_lose {g : fd_G} {hm : fd_H} {a1 : Int32} {r : Int32 × fd_H} {h : fd_H} (hf : fX8_lose a1 h = some r) : fd_S g mX8_lose 1 [.ref (g.2.2.2 + 0), .int a1] fd_X0 (fd_mx h hm) (some (.int r.1)) fd_X0 (fd_mx r.2 hm) 0 0 := by
  refine fd_S.of (by decide +kernel) (Nat.le_of_ble_eq_true rfl) ?_
  unfold fX8_lose at hf
  refine fr_loc (lv' := [(0, .ref (g.2.2.2 + 0)), (1, .int a1)]) [0, 1] rfl ?_
  refine fr_iload_n (pc := 0) dX8_lose_0 1 rfl rfl ?_
  refine fr_iconst (pc := 1) (v := (4 : Int32)) dX8_lose_1 (by decide) ?_
  obtain ⟨r2, hc1, hf⟩ := fd_bi hf
  refine fr_callSz (pc := 2) (av := [.int a1, .int (4 : Int32)]) dX8_lose_2 yy_X8_isBelow kw_111 rfl rfl (Nat.le_of_ble_eq_true rfl) ⟨Nat.le_of_ble_eq_true rfl, Nat.le_of_ble_eq_true rfl, Nat.zero_le _, Nat.zero_le _⟩ (sX8_isBelow hc1) ?_
  refine fr_bn (pc := 5) 11 dX8_lose_5 (by decide) (fun c3 => ?_) (fun c3 => ?_)
  · have hf := fd_t c3 hf
    refine fr_aload_n (pc := 11) dX8_lose_11 0 rfl rfl ?_
    refine fr_getR (pc := 12) dX8_lose_12 fl_X8_54 (by decide) rfl rfl ?_
    refine fr_iload_n (pc := 15) dX8_lose_15 1 rfl rfl ?_
    obtain ⟨g4, hf⟩ := fd_g_e hf
    refine fr_aaldS (pc := 16) dX8_lose_16 (by decide) rfl g4 rfl ?_
    refine vx_getI (pc := 17) dX8_lose_17 fl_X8_192 (fd_isSheetA g4).b (fd_isSheetA g4).x (fd_isSheetA g4).s rfl ?_
    refine fr_if_eq (pc := 20) 29 dX8_lose_20 (by decide) (fun c5 => ?_) (fun c5 => ?_)
    · have hf := fd_t c5 hf
      refine fr_aload_n (pc := 29) dX8_lose_29 0 rfl rfl ?_
      refine fr_getR (pc := 30) dX8_lose_30 fl_X8_54 (by decide) rfl rfl ?_
      refine fr_iload_n (pc := 33) dX8_lose_33 1 rfl rfl ?_
      obtain ⟨g6, hf⟩ := fd_g_e hf
      refine fr_aaldS (pc := 34) dX8_lose_34 (by decide) rfl g6 rfl ?_
      refine fr_iconst (pc := 35) (v := (1 : Int32)) dX8_lose_35 (by decide) ?_
      obtain ⟨h7, eh7, hf⟩ := fd_lt_e hf
      refine vx_putZ (x := true) (pc := 36) dX8_lose_36 fl_X8_192 ft_X4_1 (fd_isSheetA g6).b (fd_isSheetA g6).x (fd_isSheetA g6).s rfl eh7 ?_
      refine fr_aload_n (pc := 39) dX8_lose_39 0 rfl rfl ?_
      refine fr_getR (pc := 40) dX8_lose_40 fl_X8_54 (by decide) rfl rfl ?_
      refine fr_iload_n (pc := 43) dX8_lose_43 1 rfl rfl ?_
      obtain ⟨g8, hf⟩ := fd_g_e hf
      refine fr_aaldS (pc := 44) dX8_lose_44 (by decide) rfl g8 rfl ?_
      refine vx_getI (pc := 45) dX8_lose_45 fl_X8_199 (fd_isSheetA g8).b (fd_isSheetA g8).x (fd_isSheetA g8).s rfl ?_
      exact vx_iretW (x := (h7.1 (61 + 3 * a1.toNatClampNeg) 3)) (pc := 48) dX8_lose_48 rfl hf
    · have hf := fd_f c5 hf
      refine fr_aload_n (pc := 23) dX8_lose_23 0 rfl rfl ?_
      refine fr_iconst (pc := 24) (v := (1 : Int32)) dX8_lose_24 (by decide) ?_
      obtain ⟨q10, hc9, hf⟩ := fd_bi hf
      refine fr_callVi (pc := 25) (av := [.int (1 : Int32)]) dX8_lose_25 yy_X8_find kw_129 (by decide) rfl rfl rfl rfl (Nat.le_of_ble_eq_true rfl) ⟨Nat.le_of_ble_eq_true rfl, Nat.le_of_ble_eq_true rfl, Nat.zero_le _, Nat.zero_le _⟩ (sX8_find hc9) ?_
      exact vx_iretW (x := q10.1) (pc := 28) dX8_lose_28 rfl hf
  · have hf := fd_f c3 hf
    refine fr_bipush (pc := 8) (v := (-2 : Int32)) dX8_lose_8 (by decide) ?_
    exact vx_iretW (x := (-2 : Int32)) (pc := 10) dX8_lose_10 rfl hf
theorem dX8_get_0 : decode cX8_get 0 = .ok (.iload_n 1, 1) := by decide +kernel
theorem dX8_get_1 : decode cX8_get 1 = .ok (.iconst 4, 1) := by decide +kernel
theorem dX8_get_2 : decode cX8_get 2 = .ok (.invokestatic 62, 3) := by decide +kernel
theorem dX8_get_5 : decode cX8_get 5 = .ok (.ifCond .eq 11, 3) := by decide +kernel
theorem dX8_get_8 : decode cX8_get 8 = .ok (.iload_n 2, 1) := by decide +kernel
theorem dX8_get_9 : decode cX8_get 9 = .ok (.iconst 3, 1) := by decide +kernel
theorem dX8_get_10 : decode cX8_get 10 = .ok (.invokestatic 62, 3) := by decide +kernel
theorem dX8_get_13 : decode cX8_get 13 = .ok (.ifCond .ne 6, 3) := by decide +kernel
theorem dX8_get_16 : decode cX8_get 16 = .ok (.ldc 254, 2) := by decide +kernel
theorem dX8_get_18 : decode cX8_get 18 = .ok (.ireturn, 1) := by decide +kernel
theorem dX8_get_19 : decode cX8_get 19 = .ok (.aload_n 0, 1) := by decide +kernel
theorem dX8_get_20 : decode cX8_get 20 = .ok (.getfield 54, 3) := by decide +kernel
theorem dX8_get_23 : decode cX8_get 23 = .ok (.iload_n 1, 1) := by decide +kernel
theorem dX8_get_24 : decode cX8_get 24 = .ok (.aaload, 1) := by decide +kernel
theorem dX8_get_25 : decode cX8_get 25 = .ok (.iload_n 2, 1) := by decide +kernel
theorem dX8_get_26 : decode cX8_get 26 = .ok (.iload_n 3, 1) := by decide +kernel
theorem dX8_get_27 : decode cX8_get 27 = .ok (.invokevirtual 248, 3) := by decide +kernel
theorem dX8_get_30 : decode cX8_get 30 = .ok (.istore 4, 2) := by decide +kernel
theorem dX8_get_32 : decode cX8_get 32 = .ok (.iload 4, 2) := by decide +kernel
theorem dX8_get_34 : decode cX8_get 34 = .ok (.ifCond .ne 17, 3) := by decide +kernel
theorem dX8_get_37 : decode cX8_get 37 = .ok (.aload_n 0, 1) := by decide +kernel
theorem dX8_get_38 : decode cX8_get 38 = .ok (.getfield 54, 3) := by decide +kernel
theorem dX8_get_41 : decode cX8_get 41 = .ok (.iload_n 1, 1) := by decide +kernel
theorem dX8_get_42 : decode cX8_get 42 = .ok (.aaload, 1) := by decide +kernel
theorem dX8_get_43 : decode cX8_get 43 = .ok (.getfield 200, 3) := by decide +kernel
theorem dX8_get_46 : decode cX8_get 46 = .ok (.iload_n 3, 1) := by decide +kernel
theorem dX8_get_47 : decode cX8_get 47 = .ok (.invokevirtual 89, 3) := by decide +kernel
theorem dX8_get_50 : decode cX8_get 50 = .ok (.ireturn, 1) := by decide +kernel
theorem dX8_get_51 : decode cX8_get 51 = .ok (.aload_n 0, 1) := by decide +kernel
theorem dX8_get_52 : decode cX8_get 52 = .ok (.iload 4, 2) := by decide +kernel
theorem dX8_get_54 : decode cX8_get 54 = .ok (.invokevirtual 196, 3) := by decide +kernel
theorem dX8_get_57 : decode cX8_get 57 = .ok (.pop, 1) := by decide +kernel
theorem dX8_get_58 : decode cX8_get 58 = .ok (.ldc 254, 2) := by decide +kernel
theorem dX8_get_60 : decode cX8_get 60 = .ok (.ireturn, 1) := by decide +kernel
def fX8_get_L16 (a1 : Int32) (a2 : Int32) (a3 : Int32) (h : fd_H) : Option (Int32 × fd_H) :=
some ((-2147483648 : Int32), h)
set_option maxRecDepth 100000 in
set_option maxHeartbeats 4000000 in
theorem sX8_get_L16 {g : fd_G} {hm : fd_H} {a1 : Int32} {a2 : Int32} {a3 : Int32} {r : Int32 × fd_H} : ∀ (h : fd_H), fX8_get_L16 a1 a2 a3 h = some r → fd_A g mX8_get fd_E (fd_rm 1 0 0) (fd_Q g (some (.int r.1)) fd_X0 (fd_mx r.2 hm) 0 0) 16 [] [] fd_X0 (fd_mx h hm) 0 0 := by
  intro h hf
  unfold fX8_get_L16 at hf
  refine fr_ldc (pc := 16) (v := (-2147483648 : Int32)) dX8_get_16 kw_135 ?_
  exact vx_iretW (x := (-2147483648 : Int32)) (pc := 18) dX8_get_18 rfl hf
def fX8_get (a1 : Int32) (a2 : Int32) (a3 : Int32) (h : fd_H) : Option (Int32 × fd_H) :=
(fX8_isBelow a1 (4 : Int32)).bind fun r2 =>
if r2 = true then (
(fX8_isBelow a2 (3 : Int32)).bind fun r5 =>
if r5 = true then (
fd_g (fd_in a1 4) (
(fX4_findingAt (61 + 3 * a1.toNatClampNeg) a2 a3 h).bind fun r9 =>
if r9 = 0 then (
fd_g (fd_in a1 4) (
(fX3_at ((61 + 3 * a1.toNatClampNeg) + 1) 48 a3 h).bind fun r15 =>
some (r15, h)))
else (
(fX8_find r9 h).bind fun q12 =>
some ((-2147483648 : Int32), q12.2))))
else (
fX8_get_L16 a1 a2 a3 h))
else (
fX8_get_L16 a1 a2 a3 h)
set_option maxRecDepth 100000 in
set_option maxHeartbeats 4000000 in
theorem sX8_get {g : fd_G} {hm : fd_H} {a1 : Int32} {a2 : Int32} {a3 : Int32} {r : Int32 × fd_H} {h : fd_H} (hf : fX8_get a1 a2 a3 h = some r) : fd_S g mX8_get 1 [.ref (g.2.2.2 + 0), .int a1, .int a2, .int a3] fd_X0 (fd_mx h hm) (some (.int r.1)) fd_X0 (fd_mx r.2 hm) 0 0 := by
  refine fd_S.of (by decide +kernel) (Nat.le_of_ble_eq_true rfl) ?_
  unfold fX8_get at hf
  refine fr_loc (lv' := [(0, .ref (g.2.2.2 + 0)), (1, .int a1), (2, .int a2), (3, .int a3)]) [0, 1, 2, 3] rfl ?_
  refine fr_iload_n (pc := 0) dX8_get_0 1 rfl rfl ?_
  refine fr_iconst (pc := 1) (v := (4 : Int32)) dX8_get_1 (by decide) ?_
  obtain ⟨r2, hc1, hf⟩ := fd_bi hf
  refine fr_callSz (pc := 2) (av := [.int a1, .int (4 : Int32)]) dX8_get_2 yy_X8_isBelow kw_111 rfl rfl (Nat.le_of_ble_eq_true rfl) ⟨Nat.le_of_ble_eq_true rfl, Nat.le_of_ble_eq_true rfl, Nat.zero_le _, Nat.zero_le _⟩ (sX8_isBelow hc1) ?_
  refine fr_bz (pc := 5) 16 dX8_get_5 (by decide) (fun c3 => ?_) (fun c3 => ?_)
  · have hf := fd_f c3 hf
    refine fr_loc (lv' := []) [] rfl ?_
    exact sX8_get_L16  _ hf
  · have hf := fd_t c3 hf
    refine fr_iload_n (pc := 8) dX8_get_8 2 rfl rfl ?_
    refine fr_iconst (pc := 9) (v := (3 : Int32)) dX8_get_9 (by decide) ?_
    obtain ⟨r5, hc4, hf⟩ := fd_bi hf
    refine fr_callSz (pc := 10) (av := [.int a2, .int (3 : Int32)]) dX8_get_10 yy_X8_isBelow kw_111 rfl rfl (Nat.le_of_ble_eq_true rfl) ⟨Nat.le_of_ble_eq_true rfl, Nat.le_of_ble_eq_true rfl, Nat.zero_le _, Nat.zero_le _⟩ (sX8_isBelow hc4) ?_
    refine fr_bn (pc := 13) 19 dX8_get_13 (by decide) (fun c6 => ?_) (fun c6 => ?_)
    · have hf := fd_t c6 hf
      refine fr_aload_n (pc := 19) dX8_get_19 0 rfl rfl ?_
      refine fr_getR (pc := 20) dX8_get_20 fl_X8_54 (by decide) rfl rfl ?_
      refine fr_iload_n (pc := 23) dX8_get_23 1 rfl rfl ?_
      obtain ⟨g7, hf⟩ := fd_g_e hf
      refine fr_aaldS (pc := 24) dX8_get_24 (by decide) rfl g7 rfl ?_
      refine fr_iload_n (pc := 25) dX8_get_25 2 rfl rfl ?_
      refine fr_iload_n (pc := 26) dX8_get_26 3 rfl rfl ?_
      obtain ⟨r9, hc8, hf⟩ := fd_bi hf
      refine fr_callVi (pc := 27) (av := [.int a2, .int a3]) dX8_get_27 yy_X4_findingAt kw_134 (fd_isSheetA g7).b (fd_isSheetA g7).s rfl rfl rfl (Nat.le_of_ble_eq_true rfl) ⟨Nat.le_of_ble_eq_true rfl, Nat.le_of_ble_eq_true rfl, Nat.zero_le _, Nat.zero_le _⟩ (sX4_findingAt (fd_isSheetA g7) hc8) ?_
      refine fr_istore (pc := 30) (lv' := [(4, .int r9), (0, .ref (g.2.2.2 + 0)), (1, .int a1), (2, .int a2), (3, .int a3)]) dX8_get_30 (by decide) rfl ?_
      refine fr_iload (pc := 32) dX8_get_32 0 rfl ?_
      refine fr_if_ne (pc := 34) 51 dX8_get_34 (by decide) (fun c10 => ?_) (fun c10 => ?_)
      · have hf := fd_f c10 hf
        refine fr_aload_n (pc := 51) dX8_get_51 1 rfl rfl ?_
        refine fr_iload (pc := 52) dX8_get_52 0 rfl ?_
        obtain ⟨q12, hc11, hf⟩ := fd_bi hf
        refine fr_callVi (pc := 54) (av := [.int r9]) dX8_get_54 yy_X8_find kw_129 (by decide) rfl rfl rfl rfl (Nat.le_of_ble_eq_true rfl) ⟨Nat.le_of_ble_eq_true rfl, Nat.le_of_ble_eq_true rfl, Nat.zero_le _, Nat.zero_le _⟩ (sX8_find hc11) ?_
        refine fr_pop (pc := 57) dX8_get_57 rfl ?_
        refine fr_ldc (pc := 58) (v := (-2147483648 : Int32)) dX8_get_58 kw_135 ?_
        exact vx_iretW (x := (-2147483648 : Int32)) (pc := 60) dX8_get_60 rfl hf
      · have hf := fd_t c10 hf
        refine fr_aload_n (pc := 37) dX8_get_37 1 rfl rfl ?_
        refine fr_getR (pc := 38) dX8_get_38 fl_X8_54 (by decide) rfl rfl ?_
        refine fr_iload_n (pc := 41) dX8_get_41 2 rfl rfl ?_
        obtain ⟨g13, hf⟩ := fd_g_e hf
        refine fr_aaldS (pc := 42) dX8_get_42 (by decide) rfl g13 rfl ?_
        refine fr_getR (pc := 43) dX8_get_43 fl_X8_200 (fd_isSheetA g13).b (fd_isSheetA g13).s rfl ?_
        refine fr_iload_n (pc := 46) dX8_get_46 4 rfl rfl ?_
        obtain ⟨r15, hc14, hf⟩ := fd_bi hf
        refine fr_callVi (pc := 47) (av := [.int a3]) dX8_get_47 yy_X3_at kw_113 (fd_isSheetA g13).row.b (fd_isSheetA g13).row.s rfl rfl rfl (Nat.le_of_ble_eq_true rfl) ⟨Nat.le_of_ble_eq_true rfl, Nat.le_of_ble_eq_true rfl, Nat.zero_le _, Nat.zero_le _⟩ (sX3_at (fd_isSheetA g13).row hc14) ?_
        exact vx_iretW (x := r15) (pc := 50) dX8_get_50 rfl hf
    · have hf := fd_f c6 hf
      refine fr_loc (lv' := []) [] rfl ?_
      exact sX8_get_L16  _ hf
theorem dX8_fitsPlace_0 : decode cX8_fitsPlace 0 = .ok (.iload_n 0, 1) := by decide +kernel
theorem dX8_fitsPlace_1 : decode cX8_fitsPlace 1 = .ok (.ifCond .ne 10, 3) := by decide +kernel
theorem dX8_fitsPlace_4 : decode cX8_fitsPlace 4 = .ok (.iload_n 1, 1) := by decide +kernel
theorem dX8_fitsPlace_5 : decode cX8_fitsPlace 5 = .ok (.bipush 9, 2) := by decide +kernel
theorem dX8_fitsPlace_7 : decode cX8_fitsPlace 7 = .ok (.invokestatic 325, 3) := by decide +kernel
theorem dX8_fitsPlace_10 : decode cX8_fitsPlace 10 = .ok (.ireturn, 1) := by decide +kernel
theorem dX8_fitsPlace_11 : decode cX8_fitsPlace 11 = .ok (.iload_n 0, 1) := by decide +kernel
theorem dX8_fitsPlace_12 : decode cX8_fitsPlace 12 = .ok (.iconst 1, 1) := by decide +kernel
theorem dX8_fitsPlace_13 : decode cX8_fitsPlace 13 = .ok (.if_icmp .ne 19, 3) := by decide +kernel
theorem dX8_fitsPlace_16 : decode cX8_fitsPlace 16 = .ok (.iload_n 1, 1) := by decide +kernel
theorem dX8_fitsPlace_17 : decode cX8_fitsPlace 17 = .ok (.invokestatic 328, 3) := by decide +kernel
theorem dX8_fitsPlace_20 : decode cX8_fitsPlace 20 = .ok (.iconst (-1), 1) := by decide +kernel
theorem dX8_fitsPlace_21 : decode cX8_fitsPlace 21 = .ok (.if_icmp .eq 7, 3) := by decide +kernel
theorem dX8_fitsPlace_24 : decode cX8_fitsPlace 24 = .ok (.iconst 1, 1) := by decide +kernel
theorem dX8_fitsPlace_25 : decode cX8_fitsPlace 25 = .ok (.goto 18, 3) := by decide +kernel
theorem dX8_fitsPlace_28 : decode cX8_fitsPlace 28 = .ok (.iconst 0, 1) := by decide +kernel
theorem dX8_fitsPlace_29 : decode cX8_fitsPlace 29 = .ok (.goto 14, 3) := by decide +kernel
theorem dX8_fitsPlace_32 : decode cX8_fitsPlace 32 = .ok (.iload_n 1, 1) := by decide +kernel
theorem dX8_fitsPlace_33 : decode cX8_fitsPlace 33 = .ok (.bipush 59, 2) := by decide +kernel
theorem dX8_fitsPlace_35 : decode cX8_fitsPlace 35 = .ok (.if_icmp .ne 7, 3) := by decide +kernel
theorem dX8_fitsPlace_38 : decode cX8_fitsPlace 38 = .ok (.iconst 1, 1) := by decide +kernel
theorem dX8_fitsPlace_39 : decode cX8_fitsPlace 39 = .ok (.goto 4, 3) := by decide +kernel
theorem dX8_fitsPlace_42 : decode cX8_fitsPlace 42 = .ok (.iconst 0, 1) := by decide +kernel
theorem dX8_fitsPlace_43 : decode cX8_fitsPlace 43 = .ok (.ireturn, 1) := by decide +kernel
def fX8_fitsPlace (a0 : Int32) (a1 : Int32) : Option (Bool) :=
if a0 = 0 then (
(fX8_isFigure a1 (9 : Int32)).bind fun r8 =>
some (r8))
else (
if a0 = (1 : Int32) then (
(fX8_kindOf a1).bind fun r5 =>
if r5 = (-1 : Int32) then (
some (false))
else (
some (true)))
else (
if a1 = (59 : Int32) then (
some (true))
else (
some (false))))
set_option maxRecDepth 100000 in
set_option maxHeartbeats 4000000 in
theorem sX8_fitsPlace {g : fd_G} {a0 : Int32} {a1 : Int32} {h : fd_H} {r : Bool} (hf : fX8_fitsPlace a0 a1 = some r) : fd_S g mX8_fitsPlace 1 [.int a0, .int a1] fd_X0 h (some (.int (fd_b r))) fd_X0 h 0 0 := by
  refine fd_S.of (by decide +kernel) (Nat.le_of_ble_eq_true rfl) ?_
  unfold fX8_fitsPlace at hf
  refine fr_loc (lv' := [(0, .int a0), (1, .int a1)]) [0, 1] rfl ?_
  refine fr_iload_n (pc := 0) dX8_fitsPlace_0 0 rfl rfl ?_
  refine fr_if_ne (pc := 1) 11 dX8_fitsPlace_1 (by decide) (fun c1 => ?_) (fun c1 => ?_)
  · have hf := fd_f c1 hf
    refine fr_iload_n (pc := 11) dX8_fitsPlace_11 0 rfl rfl ?_
    refine fr_iconst (pc := 12) (v := (1 : Int32)) dX8_fitsPlace_12 (by decide) ?_
    refine fr_icmp_ne (pc := 13) 32 dX8_fitsPlace_13 (by decide) (fun c2 => ?_) (fun c2 => ?_)
    · have hf := fd_f c2 hf
      refine fr_iload_n (pc := 32) dX8_fitsPlace_32 1 rfl rfl ?_
      refine fr_bipush (pc := 33) (v := (59 : Int32)) dX8_fitsPlace_33 (by decide) ?_
      refine fr_icmp_ne (pc := 35) 42 dX8_fitsPlace_35 (by decide) (fun c3 => ?_) (fun c3 => ?_)
      · have hf := fd_f c3 hf
        refine fr_iconst (pc := 42) (v := (0 : Int32)) dX8_fitsPlace_42 (by decide) ?_
        exact fr_zretP (x := false) (pc := 43) dX8_fitsPlace_43 rfl hf
      · have hf := fd_t c3 hf
        refine fr_iconst (pc := 38) (v := (1 : Int32)) dX8_fitsPlace_38 (by decide) ?_
        refine fr_goto (pc := 39) 43 dX8_fitsPlace_39 (by decide) ?_
        exact fr_zretP (x := true) (pc := 43) dX8_fitsPlace_43 rfl hf
    · have hf := fd_t c2 hf
      refine fr_iload_n (pc := 16) dX8_fitsPlace_16 1 rfl rfl ?_
      obtain ⟨r5, hc4, hf⟩ := fd_bi hf
      refine fr_callSi (pc := 17) (av := [.int a1]) dX8_fitsPlace_17 yy_X8_kindOf kw_137 rfl rfl (Nat.le_of_ble_eq_true rfl) ⟨Nat.le_of_ble_eq_true rfl, Nat.le_of_ble_eq_true rfl, Nat.zero_le _, Nat.zero_le _⟩ (sX8_kindOf hc4) ?_
      refine fr_iconst (pc := 20) (v := (-1 : Int32)) dX8_fitsPlace_20 (by decide) ?_
      refine fr_icmp_eq (pc := 21) 28 dX8_fitsPlace_21 (by decide) (fun c6 => ?_) (fun c6 => ?_)
      · have hf := fd_t c6 hf
        refine fr_iconst (pc := 28) (v := (0 : Int32)) dX8_fitsPlace_28 (by decide) ?_
        refine fr_goto (pc := 29) 43 dX8_fitsPlace_29 (by decide) ?_
        exact fr_zretP (x := false) (pc := 43) dX8_fitsPlace_43 rfl hf
      · have hf := fd_f c6 hf
        refine fr_iconst (pc := 24) (v := (1 : Int32)) dX8_fitsPlace_24 (by decide) ?_
        refine fr_goto (pc := 25) 43 dX8_fitsPlace_25 (by decide) ?_
        exact fr_zretP (x := true) (pc := 43) dX8_fitsPlace_43 rfl hf
  · have hf := fd_t c1 hf
    refine fr_iload_n (pc := 4) dX8_fitsPlace_4 1 rfl rfl ?_
    refine fr_bipush (pc := 5) (v := (9 : Int32)) dX8_fitsPlace_5 (by decide) ?_
    obtain ⟨r8, hc7, hf⟩ := fd_bi hf
    refine fr_callSz (pc := 7) (av := [.int a1, .int (9 : Int32)]) dX8_fitsPlace_7 yy_X8_isFigure kw_140 rfl rfl (Nat.le_of_ble_eq_true rfl) ⟨Nat.le_of_ble_eq_true rfl, Nat.le_of_ble_eq_true rfl, Nat.zero_le _, Nat.zero_le _⟩ (sX8_isFigure hc7) ?_
    exact fr_zretP (x := r8) (pc := 10) dX8_fitsPlace_10 rfl hf
theorem dX8_fitsDebt_0 : decode cX8_fitsDebt 0 = .ok (.iload_n 0, 1) := by decide +kernel
theorem dX8_fitsDebt_1 : decode cX8_fitsDebt 1 = .ok (.tableswitch 115 0 6 #[43, 43, 61, 68, 95, 102, 108], 43) := by decide +kernel
theorem dX8_fitsDebt_44 : decode cX8_fitsDebt 44 = .ok (.iload_n 1, 1) := by decide +kernel
theorem dX8_fitsDebt_45 : decode cX8_fitsDebt 45 = .ok (.bipush 97, 2) := by decide +kernel
theorem dX8_fitsDebt_47 : decode cX8_fitsDebt 47 = .ok (.if_icmp .lt 13, 3) := by decide +kernel
theorem dX8_fitsDebt_50 : decode cX8_fitsDebt 50 = .ok (.iload_n 1, 1) := by decide +kernel
theorem dX8_fitsDebt_51 : decode cX8_fitsDebt 51 = .ok (.bipush 102, 2) := by decide +kernel
theorem dX8_fitsDebt_53 : decode cX8_fitsDebt 53 = .ok (.if_icmp .gt 7, 3) := by decide +kernel
theorem dX8_fitsDebt_56 : decode cX8_fitsDebt 56 = .ok (.iconst 1, 1) := by decide +kernel
theorem dX8_fitsDebt_57 : decode cX8_fitsDebt 57 = .ok (.goto 4, 3) := by decide +kernel
theorem dX8_fitsDebt_60 : decode cX8_fitsDebt 60 = .ok (.iconst 0, 1) := by decide +kernel
theorem dX8_fitsDebt_61 : decode cX8_fitsDebt 61 = .ok (.ireturn, 1) := by decide +kernel
theorem dX8_fitsDebt_62 : decode cX8_fitsDebt 62 = .ok (.iload_n 1, 1) := by decide +kernel
theorem dX8_fitsDebt_63 : decode cX8_fitsDebt 63 = .ok (.bipush 9, 2) := by decide +kernel
theorem dX8_fitsDebt_65 : decode cX8_fitsDebt 65 = .ok (.invokestatic 325, 3) := by decide +kernel
theorem dX8_fitsDebt_68 : decode cX8_fitsDebt 68 = .ok (.ireturn, 1) := by decide +kernel
theorem dX8_fitsDebt_69 : decode cX8_fitsDebt 69 = .ok (.iload_n 1, 1) := by decide +kernel
theorem dX8_fitsDebt_70 : decode cX8_fitsDebt 70 = .ok (.bipush 9, 2) := by decide +kernel
theorem dX8_fitsDebt_72 : decode cX8_fitsDebt 72 = .ok (.invokestatic 325, 3) := by decide +kernel
theorem dX8_fitsDebt_75 : decode cX8_fitsDebt 75 = .ok (.ifCond .eq 19, 3) := by decide +kernel
theorem dX8_fitsDebt_78 : decode cX8_fitsDebt 78 = .ok (.iload_n 2, 1) := by decide +kernel
theorem dX8_fitsDebt_79 : decode cX8_fitsDebt 79 = .ok (.bipush 48, 2) := by decide +kernel
theorem dX8_fitsDebt_81 : decode cX8_fitsDebt 81 = .ok (.if_icmp .ne 9, 3) := by decide +kernel
theorem dX8_fitsDebt_84 : decode cX8_fitsDebt 84 = .ok (.iload_n 1, 1) := by decide +kernel
theorem dX8_fitsDebt_85 : decode cX8_fitsDebt 85 = .ok (.bipush 48, 2) := by decide +kernel
theorem dX8_fitsDebt_87 : decode cX8_fitsDebt 87 = .ok (.if_icmp .eq 7, 3) := by decide +kernel
theorem dX8_fitsDebt_90 : decode cX8_fitsDebt 90 = .ok (.iconst 1, 1) := by decide +kernel
theorem dX8_fitsDebt_91 : decode cX8_fitsDebt 91 = .ok (.goto 4, 3) := by decide +kernel
theorem dX8_fitsDebt_94 : decode cX8_fitsDebt 94 = .ok (.iconst 0, 1) := by decide +kernel
theorem dX8_fitsDebt_95 : decode cX8_fitsDebt 95 = .ok (.ireturn, 1) := by decide +kernel
theorem dX8_fitsDebt_96 : decode cX8_fitsDebt 96 = .ok (.iload_n 1, 1) := by decide +kernel
theorem dX8_fitsDebt_97 : decode cX8_fitsDebt 97 = .ok (.bipush 7, 2) := by decide +kernel
theorem dX8_fitsDebt_99 : decode cX8_fitsDebt 99 = .ok (.invokestatic 325, 3) := by decide +kernel
theorem dX8_fitsDebt_102 : decode cX8_fitsDebt 102 = .ok (.ireturn, 1) := by decide +kernel
theorem dX8_fitsDebt_103 : decode cX8_fitsDebt 103 = .ok (.iload_n 1, 1) := by decide +kernel
theorem dX8_fitsDebt_104 : decode cX8_fitsDebt 104 = .ok (.iconst 3, 1) := by decide +kernel
theorem dX8_fitsDebt_105 : decode cX8_fitsDebt 105 = .ok (.invokestatic 325, 3) := by decide +kernel
theorem dX8_fitsDebt_108 : decode cX8_fitsDebt 108 = .ok (.ireturn, 1) := by decide +kernel
theorem dX8_fitsDebt_109 : decode cX8_fitsDebt 109 = .ok (.iload_n 1, 1) := by decide +kernel
theorem dX8_fitsDebt_110 : decode cX8_fitsDebt 110 = .ok (.bipush 9, 2) := by decide +kernel
theorem dX8_fitsDebt_112 : decode cX8_fitsDebt 112 = .ok (.invokestatic 325, 3) := by decide +kernel
theorem dX8_fitsDebt_115 : decode cX8_fitsDebt 115 = .ok (.ireturn, 1) := by decide +kernel
theorem dX8_fitsDebt_116 : decode cX8_fitsDebt 116 = .ok (.iload_n 1, 1) := by decide +kernel
theorem dX8_fitsDebt_117 : decode cX8_fitsDebt 117 = .ok (.bipush 59, 2) := by decide +kernel
theorem dX8_fitsDebt_119 : decode cX8_fitsDebt 119 = .ok (.if_icmp .ne 7, 3) := by decide +kernel
theorem dX8_fitsDebt_122 : decode cX8_fitsDebt 122 = .ok (.iconst 1, 1) := by decide +kernel
theorem dX8_fitsDebt_123 : decode cX8_fitsDebt 123 = .ok (.goto 4, 3) := by decide +kernel
theorem dX8_fitsDebt_126 : decode cX8_fitsDebt 126 = .ok (.iconst 0, 1) := by decide +kernel
theorem dX8_fitsDebt_127 : decode cX8_fitsDebt 127 = .ok (.ireturn, 1) := by decide +kernel
def fX8_fitsDebt (a0 : Int32) (a1 : Int32) (a2 : Int32) : Option (Bool) :=
if a0 = (0 : Int32) then (
if a1 < (97 : Int32) then (
some (false))
else (
if (102 : Int32) < a1 then (
some (false))
else (
some (true))))
else (if a0 = (1 : Int32) then (
if a1 < (97 : Int32) then (
some (false))
else (
if (102 : Int32) < a1 then (
some (false))
else (
some (true))))
else (if a0 = (2 : Int32) then (
(fX8_isFigure a1 (9 : Int32)).bind fun r9 =>
some (r9))
else (if a0 = (3 : Int32) then (
(fX8_isFigure a1 (9 : Int32)).bind fun r12 =>
if r12 = true then (
if a2 = (48 : Int32) then (
if a1 = (48 : Int32) then (
some (false))
else (
some (true)))
else (
some (true)))
else (
some (false)))
else (if a0 = (4 : Int32) then (
(fX8_isFigure a1 (7 : Int32)).bind fun r18 =>
some (r18))
else (if a0 = (5 : Int32) then (
(fX8_isFigure a1 (3 : Int32)).bind fun r21 =>
some (r21))
else (if a0 = (6 : Int32) then (
(fX8_isFigure a1 (9 : Int32)).bind fun r24 =>
some (r24))
else (if a1 = (59 : Int32) then (
some (true))
else (
some (false)))))))))
set_option maxRecDepth 100000 in
set_option maxHeartbeats 4000000 in
theorem sX8_fitsDebt {g : fd_G} {a0 : Int32} {a1 : Int32} {a2 : Int32} {h : fd_H} {r : Bool} (hf : fX8_fitsDebt a0 a1 a2 = some r) : fd_S g mX8_fitsDebt 1 [.int a0, .int a1, .int a2] fd_X0 h (some (.int (fd_b r))) fd_X0 h 0 0 := by
  refine fd_S.of (by decide +kernel) (Nat.le_of_ble_eq_true rfl) ?_
  unfold fX8_fitsDebt at hf
  refine fr_loc (lv' := [(0, .int a0), (1, .int a1), (2, .int a2)]) [0, 1, 2] rfl ?_
  refine fr_iload_n (pc := 0) dX8_fitsDebt_0 0 rfl rfl ?_
  rcases Decidable.em (a0 = (0 : Int32)) with c1 | c1
  · have hf := fd_t c1 hf
    refine fr_tabIn (pc := 1) 44 dX8_fitsDebt_1 (by rw [c1]; decide) (by rw [c1]; decide) (by rw [c1]; rfl) (by decide) ?_
    refine fr_iload_n (pc := 44) dX8_fitsDebt_44 1 rfl rfl ?_
    refine fr_bipush (pc := 45) (v := (97 : Int32)) dX8_fitsDebt_45 (by decide) ?_
    refine fr_icmp_lt (pc := 47) 60 dX8_fitsDebt_47 (by decide) (fun c2 => ?_) (fun c2 => ?_)
    · have hf := fd_t c2 hf
      refine fr_iconst (pc := 60) (v := (0 : Int32)) dX8_fitsDebt_60 (by decide) ?_
      exact fr_zretP (x := false) (pc := 61) dX8_fitsDebt_61 rfl hf
    · have hf := fd_f c2 hf
      refine fr_iload_n (pc := 50) dX8_fitsDebt_50 1 rfl rfl ?_
      refine fr_bipush (pc := 51) (v := (102 : Int32)) dX8_fitsDebt_51 (by decide) ?_
      refine fr_icmp_gt (pc := 53) 60 dX8_fitsDebt_53 (by decide) (fun c3 => ?_) (fun c3 => ?_)
      · have hf := fd_t c3 hf
        refine fr_iconst (pc := 60) (v := (0 : Int32)) dX8_fitsDebt_60 (by decide) ?_
        exact fr_zretP (x := false) (pc := 61) dX8_fitsDebt_61 rfl hf
      · have hf := fd_f c3 hf
        refine fr_iconst (pc := 56) (v := (1 : Int32)) dX8_fitsDebt_56 (by decide) ?_
        refine fr_goto (pc := 57) 61 dX8_fitsDebt_57 (by decide) ?_
        exact fr_zretP (x := true) (pc := 61) dX8_fitsDebt_61 rfl hf
  · have hf := fd_f c1 hf
    rcases Decidable.em (a0 = (1 : Int32)) with c4 | c4
    · have hf := fd_t c4 hf
      refine fr_tabIn (pc := 1) 44 dX8_fitsDebt_1 (by rw [c4]; decide) (by rw [c4]; decide) (by rw [c4]; rfl) (by decide) ?_
      refine fr_iload_n (pc := 44) dX8_fitsDebt_44 1 rfl rfl ?_
      refine fr_bipush (pc := 45) (v := (97 : Int32)) dX8_fitsDebt_45 (by decide) ?_
      refine fr_icmp_lt (pc := 47) 60 dX8_fitsDebt_47 (by decide) (fun c5 => ?_) (fun c5 => ?_)
      · have hf := fd_t c5 hf
        refine fr_iconst (pc := 60) (v := (0 : Int32)) dX8_fitsDebt_60 (by decide) ?_
        exact fr_zretP (x := false) (pc := 61) dX8_fitsDebt_61 rfl hf
      · have hf := fd_f c5 hf
        refine fr_iload_n (pc := 50) dX8_fitsDebt_50 1 rfl rfl ?_
        refine fr_bipush (pc := 51) (v := (102 : Int32)) dX8_fitsDebt_51 (by decide) ?_
        refine fr_icmp_gt (pc := 53) 60 dX8_fitsDebt_53 (by decide) (fun c6 => ?_) (fun c6 => ?_)
        · have hf := fd_t c6 hf
          refine fr_iconst (pc := 60) (v := (0 : Int32)) dX8_fitsDebt_60 (by decide) ?_
          exact fr_zretP (x := false) (pc := 61) dX8_fitsDebt_61 rfl hf
        · have hf := fd_f c6 hf
          refine fr_iconst (pc := 56) (v := (1 : Int32)) dX8_fitsDebt_56 (by decide) ?_
          refine fr_goto (pc := 57) 61 dX8_fitsDebt_57 (by decide) ?_
          exact fr_zretP (x := true) (pc := 61) dX8_fitsDebt_61 rfl hf
    · have hf := fd_f c4 hf
      rcases Decidable.em (a0 = (2 : Int32)) with c7 | c7
      · have hf := fd_t c7 hf
        refine fr_tabIn (pc := 1) 62 dX8_fitsDebt_1 (by rw [c7]; decide) (by rw [c7]; decide) (by rw [c7]; rfl) (by decide) ?_
        refine fr_iload_n (pc := 62) dX8_fitsDebt_62 1 rfl rfl ?_
        refine fr_bipush (pc := 63) (v := (9 : Int32)) dX8_fitsDebt_63 (by decide) ?_
        obtain ⟨r9, hc8, hf⟩ := fd_bi hf
        refine fr_callSz (pc := 65) (av := [.int a1, .int (9 : Int32)]) dX8_fitsDebt_65 yy_X8_isFigure kw_140 rfl rfl (Nat.le_of_ble_eq_true rfl) ⟨Nat.le_of_ble_eq_true rfl, Nat.le_of_ble_eq_true rfl, Nat.zero_le _, Nat.zero_le _⟩ (sX8_isFigure hc8) ?_
        exact fr_zretP (x := r9) (pc := 68) dX8_fitsDebt_68 rfl hf
      · have hf := fd_f c7 hf
        rcases Decidable.em (a0 = (3 : Int32)) with c10 | c10
        · have hf := fd_t c10 hf
          refine fr_tabIn (pc := 1) 69 dX8_fitsDebt_1 (by rw [c10]; decide) (by rw [c10]; decide) (by rw [c10]; rfl) (by decide) ?_
          refine fr_iload_n (pc := 69) dX8_fitsDebt_69 1 rfl rfl ?_
          refine fr_bipush (pc := 70) (v := (9 : Int32)) dX8_fitsDebt_70 (by decide) ?_
          obtain ⟨r12, hc11, hf⟩ := fd_bi hf
          refine fr_callSz (pc := 72) (av := [.int a1, .int (9 : Int32)]) dX8_fitsDebt_72 yy_X8_isFigure kw_140 rfl rfl (Nat.le_of_ble_eq_true rfl) ⟨Nat.le_of_ble_eq_true rfl, Nat.le_of_ble_eq_true rfl, Nat.zero_le _, Nat.zero_le _⟩ (sX8_isFigure hc11) ?_
          refine fr_bz (pc := 75) 94 dX8_fitsDebt_75 (by decide) (fun c13 => ?_) (fun c13 => ?_)
          · have hf := fd_f c13 hf
            refine fr_iconst (pc := 94) (v := (0 : Int32)) dX8_fitsDebt_94 (by decide) ?_
            exact fr_zretP (x := false) (pc := 95) dX8_fitsDebt_95 rfl hf
          · have hf := fd_t c13 hf
            refine fr_iload_n (pc := 78) dX8_fitsDebt_78 2 rfl rfl ?_
            refine fr_bipush (pc := 79) (v := (48 : Int32)) dX8_fitsDebt_79 (by decide) ?_
            refine fr_icmp_ne (pc := 81) 90 dX8_fitsDebt_81 (by decide) (fun c14 => ?_) (fun c14 => ?_)
            · have hf := fd_f c14 hf
              refine fr_iconst (pc := 90) (v := (1 : Int32)) dX8_fitsDebt_90 (by decide) ?_
              refine fr_goto (pc := 91) 95 dX8_fitsDebt_91 (by decide) ?_
              exact fr_zretP (x := true) (pc := 95) dX8_fitsDebt_95 rfl hf
            · have hf := fd_t c14 hf
              refine fr_iload_n (pc := 84) dX8_fitsDebt_84 1 rfl rfl ?_
              refine fr_bipush (pc := 85) (v := (48 : Int32)) dX8_fitsDebt_85 (by decide) ?_
              refine fr_icmp_eq (pc := 87) 94 dX8_fitsDebt_87 (by decide) (fun c15 => ?_) (fun c15 => ?_)
              · have hf := fd_t c15 hf
                refine fr_iconst (pc := 94) (v := (0 : Int32)) dX8_fitsDebt_94 (by decide) ?_
                exact fr_zretP (x := false) (pc := 95) dX8_fitsDebt_95 rfl hf
              · have hf := fd_f c15 hf
                refine fr_iconst (pc := 90) (v := (1 : Int32)) dX8_fitsDebt_90 (by decide) ?_
                refine fr_goto (pc := 91) 95 dX8_fitsDebt_91 (by decide) ?_
                exact fr_zretP (x := true) (pc := 95) dX8_fitsDebt_95 rfl hf
        · have hf := fd_f c10 hf
          rcases Decidable.em (a0 = (4 : Int32)) with c16 | c16
          · have hf := fd_t c16 hf
            refine fr_tabIn (pc := 1) 96 dX8_fitsDebt_1 (by rw [c16]; decide) (by rw [c16]; decide) (by rw [c16]; rfl) (by decide) ?_
            refine fr_iload_n (pc := 96) dX8_fitsDebt_96 1 rfl rfl ?_
            refine fr_bipush (pc := 97) (v := (7 : Int32)) dX8_fitsDebt_97 (by decide) ?_
            obtain ⟨r18, hc17, hf⟩ := fd_bi hf
            refine fr_callSz (pc := 99) (av := [.int a1, .int (7 : Int32)]) dX8_fitsDebt_99 yy_X8_isFigure kw_140 rfl rfl (Nat.le_of_ble_eq_true rfl) ⟨Nat.le_of_ble_eq_true rfl, Nat.le_of_ble_eq_true rfl, Nat.zero_le _, Nat.zero_le _⟩ (sX8_isFigure hc17) ?_
            exact fr_zretP (x := r18) (pc := 102) dX8_fitsDebt_102 rfl hf
          · have hf := fd_f c16 hf
            rcases Decidable.em (a0 = (5 : Int32)) with c19 | c19
            · have hf := fd_t c19 hf
              refine fr_tabIn (pc := 1) 103 dX8_fitsDebt_1 (by rw [c19]; decide) (by rw [c19]; decide) (by rw [c19]; rfl) (by decide) ?_
              refine fr_iload_n (pc := 103) dX8_fitsDebt_103 1 rfl rfl ?_
              refine fr_iconst (pc := 104) (v := (3 : Int32)) dX8_fitsDebt_104 (by decide) ?_
              obtain ⟨r21, hc20, hf⟩ := fd_bi hf
              refine fr_callSz (pc := 105) (av := [.int a1, .int (3 : Int32)]) dX8_fitsDebt_105 yy_X8_isFigure kw_140 rfl rfl (Nat.le_of_ble_eq_true rfl) ⟨Nat.le_of_ble_eq_true rfl, Nat.le_of_ble_eq_true rfl, Nat.zero_le _, Nat.zero_le _⟩ (sX8_isFigure hc20) ?_
              exact fr_zretP (x := r21) (pc := 108) dX8_fitsDebt_108 rfl hf
            · have hf := fd_f c19 hf
              rcases Decidable.em (a0 = (6 : Int32)) with c22 | c22
              · have hf := fd_t c22 hf
                refine fr_tabIn (pc := 1) 109 dX8_fitsDebt_1 (by rw [c22]; decide) (by rw [c22]; decide) (by rw [c22]; rfl) (by decide) ?_
                refine fr_iload_n (pc := 109) dX8_fitsDebt_109 1 rfl rfl ?_
                refine fr_bipush (pc := 110) (v := (9 : Int32)) dX8_fitsDebt_110 (by decide) ?_
                obtain ⟨r24, hc23, hf⟩ := fd_bi hf
                refine fr_callSz (pc := 112) (av := [.int a1, .int (9 : Int32)]) dX8_fitsDebt_112 yy_X8_isFigure kw_140 rfl rfl (Nat.le_of_ble_eq_true rfl) ⟨Nat.le_of_ble_eq_true rfl, Nat.le_of_ble_eq_true rfl, Nat.zero_le _, Nat.zero_le _⟩ (sX8_isFigure hc23) ?_
                exact fr_zretP (x := r24) (pc := 115) dX8_fitsDebt_115 rfl hf
              · have hf := fd_f c22 hf
                have tc1 : ¬ (a0).toInt = 0 := lv_neT c1 rfl
                have tc4 : ¬ (a0).toInt = 1 := lv_neT c4 rfl
                have tc7 : ¬ (a0).toInt = 2 := lv_neT c7 rfl
                have tc10 : ¬ (a0).toInt = 3 := lv_neT c10 rfl
                have tc16 : ¬ (a0).toInt = 4 := lv_neT c16 rfl
                have tc19 : ¬ (a0).toInt = 5 := lv_neT c19 rfl
                have tc22 : ¬ (a0).toInt = 6 := lv_neT c22 rfl
                refine fr_tabOut (pc := 1) 116 dX8_fitsDebt_1 (by omega) (by decide) ?_
                refine fr_iload_n (pc := 116) dX8_fitsDebt_116 1 rfl rfl ?_
                refine fr_bipush (pc := 117) (v := (59 : Int32)) dX8_fitsDebt_117 (by decide) ?_
                refine fr_icmp_ne (pc := 119) 126 dX8_fitsDebt_119 (by decide) (fun c25 => ?_) (fun c25 => ?_)
                · have hf := fd_f c25 hf
                  refine fr_iconst (pc := 126) (v := (0 : Int32)) dX8_fitsDebt_126 (by decide) ?_
                  exact fr_zretP (x := false) (pc := 127) dX8_fitsDebt_127 rfl hf
                · have hf := fd_t c25 hf
                  refine fr_iconst (pc := 122) (v := (1 : Int32)) dX8_fitsDebt_122 (by decide) ?_
                  refine fr_goto (pc := 123) 127 dX8_fitsDebt_123 (by decide) ?_
                  exact fr_zretP (x := true) (pc := 127) dX8_fitsDebt_127 rfl hf
theorem dX8_countOrItem_0 : decode cX8_countOrItem 0 = .ok (.iload_n 2, 1) := by decide +kernel
theorem dX8_countOrItem_1 : decode cX8_countOrItem 1 = .ok (.iconst (-1), 1) := by decide +kernel
theorem dX8_countOrItem_2 : decode cX8_countOrItem 2 = .ok (.if_icmp .ne 8, 3) := by decide +kernel
theorem dX8_countOrItem_5 : decode cX8_countOrItem 5 = .ok (.lload_n 0, 1) := by decide +kernel
theorem dX8_countOrItem_6 : decode cX8_countOrItem 6 = .ok (.invokestatic 183, 3) := by decide +kernel
theorem dX8_countOrItem_9 : decode cX8_countOrItem 9 = .ok (.ireturn, 1) := by decide +kernel
theorem dX8_countOrItem_10 : decode cX8_countOrItem 10 = .ok (.iload_n 2, 1) := by decide +kernel
theorem dX8_countOrItem_11 : decode cX8_countOrItem 11 = .ok (.istore_n 3, 1) := by decide +kernel
theorem dX8_countOrItem_12 : decode cX8_countOrItem 12 = .ok (.iconst 0, 1) := by decide +kernel
theorem dX8_countOrItem_13 : decode cX8_countOrItem 13 = .ok (.istore 4, 2) := by decide +kernel
theorem dX8_countOrItem_15 : decode cX8_countOrItem 15 = .ok (.iload 4, 2) := by decide +kernel
theorem dX8_countOrItem_17 : decode cX8_countOrItem 17 = .ok (.bipush 40, 2) := by decide +kernel
theorem dX8_countOrItem_19 : decode cX8_countOrItem 19 = .ok (.if_icmp .ge 28, 3) := by decide +kernel
theorem dX8_countOrItem_22 : decode cX8_countOrItem 22 = .ok (.lload_n 0, 1) := by decide +kernel
theorem dX8_countOrItem_23 : decode cX8_countOrItem 23 = .ok (.iload 4, 2) := by decide +kernel
theorem dX8_countOrItem_25 : decode cX8_countOrItem 25 = .ok (.invokestatic 140, 3) := by decide +kernel
theorem dX8_countOrItem_28 : decode cX8_countOrItem 28 = .ok (.ifCond .eq 13, 3) := by decide +kernel
theorem dX8_countOrItem_31 : decode cX8_countOrItem 31 = .ok (.iload_n 3, 1) := by decide +kernel
theorem dX8_countOrItem_32 : decode cX8_countOrItem 32 = .ok (.ifCond .ne 6, 3) := by decide +kernel
theorem dX8_countOrItem_35 : decode cX8_countOrItem 35 = .ok (.iload 4, 2) := by decide +kernel
theorem dX8_countOrItem_37 : decode cX8_countOrItem 37 = .ok (.ireturn, 1) := by decide +kernel
theorem dX8_countOrItem_38 : decode cX8_countOrItem 38 = .ok (.iinc 3 (-1), 3) := by decide +kernel
theorem dX8_countOrItem_41 : decode cX8_countOrItem 41 = .ok (.iinc 4 1, 3) := by decide +kernel
theorem dX8_countOrItem_44 : decode cX8_countOrItem 44 = .ok (.goto (-29), 3) := by decide +kernel
theorem dX8_countOrItem_47 : decode cX8_countOrItem 47 = .ok (.iconst (-1), 1) := by decide +kernel
theorem dX8_countOrItem_48 : decode cX8_countOrItem 48 = .ok (.ireturn, 1) := by decide +kernel
def fX8_countOrItem_L15 (a0 : Int64) (a2 : Int32) : Nat → Int32 → Int32 → Option (Int32)
  | 0 => fun _ _ => none
  | n + 1 => fun v3 v4 =>
if (40 : Int32) ≤ v4 then (
some ((-1 : Int32)))
else (
(fX8_hasBit a0 v4).bind fun r3 =>
if r3 = true then (
if v3 = 0 then (
some (v4))
else (
fX8_countOrItem_L15 a0 a2 n (v3 + (-1 : Int32)) (v4 + (1 : Int32))))
else (
fX8_countOrItem_L15 a0 a2 n v3 (v4 + (1 : Int32))))
set_option maxRecDepth 100000 in
set_option maxHeartbeats 4000000 in
theorem sX8_countOrItem_L15 {g : fd_G} {a0 : Int64} {a2 : Int32} {h : fd_H} {r : Int32} : ∀ (n : Nat) (v3 : Int32) (v4 : Int32), fX8_countOrItem_L15 a0 a2 n v3 v4 = some r → fd_A g mX8_countOrItem fd_E (fd_rm 1 0 0) (fd_Q g (some (.int r)) fd_X0 h 0 0) 15 [(0, .long a0), (3, .int v3), (4, .int v4)] [] fd_X0 h 0 0 := by
  intro n
  induction n with
  | zero =>
    intro _ _ hf
    cases hf
  | succ n ih =>
    intro v3 v4 hf
    rw [fX8_countOrItem_L15] at hf
    refine fr_iload (pc := 15) dX8_countOrItem_15 2 rfl ?_
    refine fr_bipush (pc := 17) (v := (40 : Int32)) dX8_countOrItem_17 (by decide) ?_
    refine fr_icmp_ge (pc := 19) 47 dX8_countOrItem_19 (by decide) (fun c1 => ?_) (fun c1 => ?_)
    · have hf := fd_t c1 hf
      refine fr_iconst (pc := 47) (v := (-1 : Int32)) dX8_countOrItem_47 (by decide) ?_
      exact fr_iretP (x := (-1 : Int32)) (pc := 48) dX8_countOrItem_48 rfl hf
    · have hf := fd_f c1 hf
      refine fr_lload_n (pc := 22) dX8_countOrItem_22 0 rfl rfl ?_
      refine fr_iload (pc := 23) dX8_countOrItem_23 2 rfl ?_
      obtain ⟨r3, hc2, hf⟩ := fd_bi hf
      refine fr_callSz (pc := 25) (av := [.long a0, .int v4]) dX8_countOrItem_25 yy_X8_hasBit kw_121 rfl rfl (Nat.le_of_ble_eq_true rfl) ⟨Nat.le_of_ble_eq_true rfl, Nat.le_of_ble_eq_true rfl, Nat.zero_le _, Nat.zero_le _⟩ (sX8_hasBit hc2) ?_
      refine fr_bz (pc := 28) 41 dX8_countOrItem_28 (by decide) (fun c4 => ?_) (fun c4 => ?_)
      · have hf := fd_f c4 hf
        refine fr_iinc (pc := 41) (v := (v4 + (1 : Int32))) (lv' := [(4, .int (v4 + (1 : Int32))), (0, .long a0), (3, .int v3)]) dX8_countOrItem_41 2 rfl rfl (by decide) rfl ?_
        refine fr_goto (pc := 44) 15 dX8_countOrItem_44 (by decide) ?_
        refine fr_loc (lv' := [(0, .long a0), (3, .int v3), (4, .int (v4 + (1 : Int32)))]) [1, 2, 0] rfl ?_
        exact ih _ _ hf
      · have hf := fd_t c4 hf
        refine fr_iload_n (pc := 31) dX8_countOrItem_31 1 rfl rfl ?_
        refine fr_if_ne (pc := 32) 38 dX8_countOrItem_32 (by decide) (fun c5 => ?_) (fun c5 => ?_)
        · have hf := fd_f c5 hf
          refine fr_iinc (pc := 38) (v := (v3 + (-1 : Int32))) (lv' := [(3, .int (v3 + (-1 : Int32))), (0, .long a0), (4, .int v4)]) dX8_countOrItem_38 1 rfl rfl (by decide) rfl ?_
          refine fr_iinc (pc := 41) (v := (v4 + (1 : Int32))) (lv' := [(4, .int (v4 + (1 : Int32))), (3, .int (v3 + (-1 : Int32))), (0, .long a0)]) dX8_countOrItem_41 2 rfl rfl (by decide) rfl ?_
          refine fr_goto (pc := 44) 15 dX8_countOrItem_44 (by decide) ?_
          refine fr_loc (lv' := [(0, .long a0), (3, .int (v3 + (-1 : Int32))), (4, .int (v4 + (1 : Int32)))]) [2, 1, 0] rfl ?_
          exact ih _ _ hf
        · have hf := fd_t c5 hf
          refine fr_iload (pc := 35) dX8_countOrItem_35 2 rfl ?_
          exact fr_iretP (x := v4) (pc := 37) dX8_countOrItem_37 rfl hf
def fX8_countOrItem (a0 : Int64) (a2 : Int32) : Option (Int32) :=
if a2 = (-1 : Int32) then (
(fJ13_bitCount_95d88 a0).bind fun r3 =>
some (r3))
else (
fX8_countOrItem_L15 a0 a2 fd_fu a2 (0 : Int32))
set_option maxRecDepth 100000 in
set_option maxHeartbeats 4000000 in
theorem sX8_countOrItem {g : fd_G} {a0 : Int64} {a2 : Int32} {h : fd_H} {r : Int32} (hf : fX8_countOrItem a0 a2 = some r) : fd_S g mX8_countOrItem 1 [.long a0, .int a2] fd_X0 h (some (.int r)) fd_X0 h 0 0 := by
  refine fd_S.of (by decide +kernel) (Nat.le_of_ble_eq_true rfl) ?_
  unfold fX8_countOrItem at hf
  refine fr_loc (lv' := [(0, .long a0), (2, .int a2)]) [0, 1] rfl ?_
  refine fr_iload_n (pc := 0) dX8_countOrItem_0 1 rfl rfl ?_
  refine fr_iconst (pc := 1) (v := (-1 : Int32)) dX8_countOrItem_1 (by decide) ?_
  refine fr_icmp_ne (pc := 2) 10 dX8_countOrItem_2 (by decide) (fun c1 => ?_) (fun c1 => ?_)
  · have hf := fd_f c1 hf
    refine fr_iload_n (pc := 10) dX8_countOrItem_10 1 rfl rfl ?_
    refine fr_istore_n (pc := 11) (lv' := [(3, .int a2), (0, .long a0), (2, .int a2)]) dX8_countOrItem_11 rfl (by decide) rfl ?_
    refine fr_iconst (pc := 12) (v := (0 : Int32)) dX8_countOrItem_12 (by decide) ?_
    refine fr_istore (pc := 13) (lv' := [(4, .int (0 : Int32)), (3, .int a2), (0, .long a0), (2, .int a2)]) dX8_countOrItem_13 (by decide) rfl ?_
    refine fr_loc (lv' := [(0, .long a0), (3, .int a2), (4, .int (0 : Int32))]) [2, 1, 0] rfl ?_
    exact sX8_countOrItem_L15 _  _ _ hf
  · have hf := fd_t c1 hf
    refine fr_lload_n (pc := 5) dX8_countOrItem_5 0 rfl rfl ?_
    obtain ⟨r3, hc2, hf⟩ := fd_bi hf
    refine fr_callSi (pc := 6) (av := [.long a0]) dX8_countOrItem_6 yy_J13_bitCount_95d88 kw_144 rfl rfl (Nat.le_of_ble_eq_true rfl) ⟨Nat.le_of_ble_eq_true rfl, Nat.le_of_ble_eq_true rfl, Nat.zero_le _, Nat.zero_le _⟩ (sJ13_bitCount_95d88 hc2) ?_
    exact fr_iretP (x := r3) (pc := 9) dX8_countOrItem_9 rfl hf
theorem dX9_isText_0 : decode cX9_isText 0 = .ok (.iload_n 0, 1) := by decide +kernel
theorem dX9_isText_1 : decode cX9_isText 1 = .ok (.iconst 0, 1) := by decide +kernel
theorem dX9_isText_2 : decode cX9_isText 2 = .ok (.iconst 2, 1) := by decide +kernel
theorem dX9_isText_3 : decode cX9_isText 3 = .ok (.invokestatic 89, 3) := by decide +kernel
theorem dX9_isText_6 : decode cX9_isText 6 = .ok (.ireturn, 1) := by decide +kernel
def fX9_isText (a0 : Int32) : Option (Bool) :=
(fX9_in a0 (0 : Int32) (2 : Int32)).bind fun r2 =>
some (r2)
set_option maxRecDepth 100000 in
set_option maxHeartbeats 4000000 in
theorem sX9_isText {g : fd_G} {a0 : Int32} {h : fd_H} {r : Bool} (hf : fX9_isText a0 = some r) : fd_S g mX9_isText 1 [.int a0] fd_X0 h (some (.int (fd_b r))) fd_X0 h 0 0 := by
  refine fd_S.of (by decide +kernel) (Nat.le_of_ble_eq_true rfl) ?_
  unfold fX9_isText at hf
  refine fr_loc (lv' := [(0, .int a0)]) [0] rfl ?_
  refine fr_iload_n (pc := 0) dX9_isText_0 0 rfl rfl ?_
  refine fr_iconst (pc := 1) (v := (0 : Int32)) dX9_isText_1 (by decide) ?_
  refine fr_iconst (pc := 2) (v := (2 : Int32)) dX9_isText_2 (by decide) ?_
  obtain ⟨r2, hc1, hf⟩ := fd_bi hf
  refine fr_callSz (pc := 3) (av := [.int a0, .int (0 : Int32), .int (2 : Int32)]) dX9_isText_3 yy_X9_in kw_148 rfl rfl (Nat.le_of_ble_eq_true rfl) ⟨Nat.le_of_ble_eq_true rfl, Nat.le_of_ble_eq_true rfl, Nat.zero_le _, Nat.zero_le _⟩ (sX9_in hc1) ?_
  exact fr_zretP (x := r2) (pc := 6) dX9_isText_6 rfl hf
theorem dX9_isForty_0 : decode cX9_isForty 0 = .ok (.iload_n 0, 1) := by decide +kernel
theorem dX9_isForty_1 : decode cX9_isForty 1 = .ok (.iconst 0, 1) := by decide +kernel
theorem dX9_isForty_2 : decode cX9_isForty 2 = .ok (.bipush 39, 2) := by decide +kernel
theorem dX9_isForty_4 : decode cX9_isForty 4 = .ok (.invokestatic 89, 3) := by decide +kernel
theorem dX9_isForty_7 : decode cX9_isForty 7 = .ok (.ireturn, 1) := by decide +kernel
def fX9_isForty (a0 : Int32) : Option (Bool) :=
(fX9_in a0 (0 : Int32) (39 : Int32)).bind fun r2 =>
some (r2)
set_option maxRecDepth 100000 in
set_option maxHeartbeats 4000000 in
theorem sX9_isForty {g : fd_G} {a0 : Int32} {h : fd_H} {r : Bool} (hf : fX9_isForty a0 = some r) : fd_S g mX9_isForty 1 [.int a0] fd_X0 h (some (.int (fd_b r))) fd_X0 h 0 0 := by
  refine fd_S.of (by decide +kernel) (Nat.le_of_ble_eq_true rfl) ?_
  unfold fX9_isForty at hf
  refine fr_loc (lv' := [(0, .int a0)]) [0] rfl ?_
  refine fr_iload_n (pc := 0) dX9_isForty_0 0 rfl rfl ?_
  refine fr_iconst (pc := 1) (v := (0 : Int32)) dX9_isForty_1 (by decide) ?_
  refine fr_bipush (pc := 2) (v := (39 : Int32)) dX9_isForty_2 (by decide) ?_
  obtain ⟨r2, hc1, hf⟩ := fd_bi hf
  refine fr_callSz (pc := 4) (av := [.int a0, .int (0 : Int32), .int (39 : Int32)]) dX9_isForty_4 yy_X9_in kw_148 rfl rfl (Nat.le_of_ble_eq_true rfl) ⟨Nat.le_of_ble_eq_true rfl, Nat.le_of_ble_eq_true rfl, Nat.zero_le _, Nat.zero_le _⟩ (sX9_in hc1) ?_
  exact fr_zretP (x := r2) (pc := 7) dX9_isForty_7 rfl hf
theorem dX9_isEight_0 : decode cX9_isEight 0 = .ok (.iload_n 0, 1) := by decide +kernel
theorem dX9_isEight_1 : decode cX9_isEight 1 = .ok (.iconst 0, 1) := by decide +kernel
theorem dX9_isEight_2 : decode cX9_isEight 2 = .ok (.bipush 7, 2) := by decide +kernel
theorem dX9_isEight_4 : decode cX9_isEight 4 = .ok (.invokestatic 89, 3) := by decide +kernel
theorem dX9_isEight_7 : decode cX9_isEight 7 = .ok (.ireturn, 1) := by decide +kernel
def fX9_isEight (a0 : Int32) : Option (Bool) :=
(fX9_in a0 (0 : Int32) (7 : Int32)).bind fun r2 =>
some (r2)
set_option maxRecDepth 100000 in
set_option maxHeartbeats 4000000 in
theorem sX9_isEight {g : fd_G} {a0 : Int32} {h : fd_H} {r : Bool} (hf : fX9_isEight a0 = some r) : fd_S g mX9_isEight 1 [.int a0] fd_X0 h (some (.int (fd_b r))) fd_X0 h 0 0 := by
  refine fd_S.of (by decide +kernel) (Nat.le_of_ble_eq_true rfl) ?_
  unfold fX9_isEight at hf
  refine fr_loc (lv' := [(0, .int a0)]) [0] rfl ?_
  refine fr_iload_n (pc := 0) dX9_isEight_0 0 rfl rfl ?_
  refine fr_iconst (pc := 1) (v := (0 : Int32)) dX9_isEight_1 (by decide) ?_
  refine fr_bipush (pc := 2) (v := (7 : Int32)) dX9_isEight_2 (by decide) ?_
  obtain ⟨r2, hc1, hf⟩ := fd_bi hf
  refine fr_callSz (pc := 4) (av := [.int a0, .int (0 : Int32), .int (7 : Int32)]) dX9_isEight_4 yy_X9_in kw_148 rfl rfl (Nat.le_of_ble_eq_true rfl) ⟨Nat.le_of_ble_eq_true rfl, Nat.le_of_ble_eq_true rfl, Nat.zero_le _, Nat.zero_le _⟩ (sX9_in hc1) ?_
  exact fr_zretP (x := r2) (pc := 7) dX9_isEight_7 rfl hf
theorem dX9_readsPlace_0 : decode cX9_readsPlace 0 = .ok (.aload_n 0, 1) := by decide +kernel
theorem dX9_readsPlace_1 : decode cX9_readsPlace 1 = .ok (.iconst 0, 1) := by decide +kernel
theorem dX9_readsPlace_2 : decode cX9_readsPlace 2 = .ok (.iload_n 2, 1) := by decide +kernel
theorem dX9_readsPlace_3 : decode cX9_readsPlace 3 = .ok (.invokevirtual 97, 3) := by decide +kernel
theorem dX9_readsPlace_6 : decode cX9_readsPlace 6 = .ok (.bipush 48, 2) := by decide +kernel
theorem dX9_readsPlace_8 : decode cX9_readsPlace 8 = .ok (.isub, 1) := by decide +kernel
theorem dX9_readsPlace_9 : decode cX9_readsPlace 9 = .ok (.istore_n 3, 1) := by decide +kernel
theorem dX9_readsPlace_10 : decode cX9_readsPlace 10 = .ok (.aload_n 0, 1) := by decide +kernel
theorem dX9_readsPlace_11 : decode cX9_readsPlace 11 = .ok (.iconst 0, 1) := by decide +kernel
theorem dX9_readsPlace_12 : decode cX9_readsPlace 12 = .ok (.iload_n 2, 1) := by decide +kernel
theorem dX9_readsPlace_13 : decode cX9_readsPlace 13 = .ok (.iconst 1, 1) := by decide +kernel
theorem dX9_readsPlace_14 : decode cX9_readsPlace 14 = .ok (.iadd, 1) := by decide +kernel
theorem dX9_readsPlace_15 : decode cX9_readsPlace 15 = .ok (.invokevirtual 97, 3) := by decide +kernel
theorem dX9_readsPlace_18 : decode cX9_readsPlace 18 = .ok (.istore 4, 2) := by decide +kernel
theorem dX9_readsPlace_20 : decode cX9_readsPlace 20 = .ok (.iload 4, 2) := by decide +kernel
theorem dX9_readsPlace_22 : decode cX9_readsPlace 22 = .ok (.bipush 111, 2) := by decide +kernel
theorem dX9_readsPlace_24 : decode cX9_readsPlace 24 = .ok (.if_icmp .ne 7, 3) := by decide +kernel
theorem dX9_readsPlace_27 : decode cX9_readsPlace 27 = .ok (.iconst 0, 1) := by decide +kernel
theorem dX9_readsPlace_28 : decode cX9_readsPlace 28 = .ok (.goto 37, 3) := by decide +kernel
theorem dX9_readsPlace_31 : decode cX9_readsPlace 31 = .ok (.iload 4, 2) := by decide +kernel
theorem dX9_readsPlace_33 : decode cX9_readsPlace 33 = .ok (.bipush 104, 2) := by decide +kernel
theorem dX9_readsPlace_35 : decode cX9_readsPlace 35 = .ok (.if_icmp .ne 7, 3) := by decide +kernel
theorem dX9_readsPlace_38 : decode cX9_readsPlace 38 = .ok (.iconst 1, 1) := by decide +kernel
theorem dX9_readsPlace_39 : decode cX9_readsPlace 39 = .ok (.goto 26, 3) := by decide +kernel
theorem dX9_readsPlace_42 : decode cX9_readsPlace 42 = .ok (.iload 4, 2) := by decide +kernel
theorem dX9_readsPlace_44 : decode cX9_readsPlace 44 = .ok (.bipush 119, 2) := by decide +kernel
theorem dX9_readsPlace_46 : decode cX9_readsPlace 46 = .ok (.if_icmp .ne 7, 3) := by decide +kernel
theorem dX9_readsPlace_49 : decode cX9_readsPlace 49 = .ok (.iconst 2, 1) := by decide +kernel
theorem dX9_readsPlace_50 : decode cX9_readsPlace 50 = .ok (.goto 15, 3) := by decide +kernel
theorem dX9_readsPlace_53 : decode cX9_readsPlace 53 = .ok (.iload 4, 2) := by decide +kernel
theorem dX9_readsPlace_55 : decode cX9_readsPlace 55 = .ok (.bipush 115, 2) := by decide +kernel
theorem dX9_readsPlace_57 : decode cX9_readsPlace 57 = .ok (.if_icmp .ne 7, 3) := by decide +kernel
theorem dX9_readsPlace_60 : decode cX9_readsPlace 60 = .ok (.iconst 3, 1) := by decide +kernel
theorem dX9_readsPlace_61 : decode cX9_readsPlace 61 = .ok (.goto 4, 3) := by decide +kernel
theorem dX9_readsPlace_64 : decode cX9_readsPlace 64 = .ok (.iconst (-1), 1) := by decide +kernel
theorem dX9_readsPlace_65 : decode cX9_readsPlace 65 = .ok (.istore 5, 2) := by decide +kernel
theorem dX9_readsPlace_67 : decode cX9_readsPlace 67 = .ok (.iload_n 3, 1) := by decide +kernel
theorem dX9_readsPlace_68 : decode cX9_readsPlace 68 = .ok (.iconst 0, 1) := by decide +kernel
theorem dX9_readsPlace_69 : decode cX9_readsPlace 69 = .ok (.bipush 9, 2) := by decide +kernel
theorem dX9_readsPlace_71 : decode cX9_readsPlace 71 = .ok (.invokestatic 89, 3) := by decide +kernel
theorem dX9_readsPlace_74 : decode cX9_readsPlace 74 = .ok (.ifCond .ne 5, 3) := by decide +kernel
theorem dX9_readsPlace_77 : decode cX9_readsPlace 77 = .ok (.iconst 0, 1) := by decide +kernel
theorem dX9_readsPlace_78 : decode cX9_readsPlace 78 = .ok (.ireturn, 1) := by decide +kernel
theorem dX9_readsPlace_79 : decode cX9_readsPlace 79 = .ok (.iload 5, 2) := by decide +kernel
theorem dX9_readsPlace_81 : decode cX9_readsPlace 81 = .ok (.iconst (-1), 1) := by decide +kernel
theorem dX9_readsPlace_82 : decode cX9_readsPlace 82 = .ok (.if_icmp .ne 5, 3) := by decide +kernel
theorem dX9_readsPlace_85 : decode cX9_readsPlace 85 = .ok (.iconst 1, 1) := by decide +kernel
theorem dX9_readsPlace_86 : decode cX9_readsPlace 86 = .ok (.ireturn, 1) := by decide +kernel
theorem dX9_readsPlace_87 : decode cX9_readsPlace 87 = .ok (.aload_n 0, 1) := by decide +kernel
theorem dX9_readsPlace_88 : decode cX9_readsPlace 88 = .ok (.getfield 16, 3) := by decide +kernel
theorem dX9_readsPlace_91 : decode cX9_readsPlace 91 = .ok (.iload_n 1, 1) := by decide +kernel
theorem dX9_readsPlace_92 : decode cX9_readsPlace 92 = .ok (.iload_n 3, 1) := by decide +kernel
theorem dX9_readsPlace_93 : decode cX9_readsPlace 93 = .ok (.iastore, 1) := by decide +kernel
theorem dX9_readsPlace_94 : decode cX9_readsPlace 94 = .ok (.aload_n 0, 1) := by decide +kernel
theorem dX9_readsPlace_95 : decode cX9_readsPlace 95 = .ok (.getfield 19, 3) := by decide +kernel
theorem dX9_readsPlace_98 : decode cX9_readsPlace 98 = .ok (.iload_n 1, 1) := by decide +kernel
theorem dX9_readsPlace_99 : decode cX9_readsPlace 99 = .ok (.iload 5, 2) := by decide +kernel
theorem dX9_readsPlace_101 : decode cX9_readsPlace 101 = .ok (.iastore, 1) := by decide +kernel
theorem dX9_readsPlace_102 : decode cX9_readsPlace 102 = .ok (.iconst 2, 1) := by decide +kernel
theorem dX9_readsPlace_103 : decode cX9_readsPlace 103 = .ok (.ireturn, 1) := by decide +kernel
def fX9_readsPlace_L65 (a1 : Int32) (a2 : Int32) (v3 : Int32) (vs0 : Int32) (h : fd_H) : Option (Int32 × fd_H) :=
(fX9_in v3 (0 : Int32) (9 : Int32)).bind fun r2 =>
if r2 = true then (
if vs0 = (-1 : Int32) then (
some ((1 : Int32), h))
else (
fd_g (fd_in a1 9) (
fd_lt (fd_ui h 76 a1.toNatClampNeg v3) fun h6 =>
fd_g (fd_in a1 9) (
fd_lt (fd_ui h6 77 a1.toNatClampNeg vs0) fun h8 =>
some ((2 : Int32), h8)))))
else (
some ((0 : Int32), h))
set_option maxRecDepth 100000 in
set_option maxHeartbeats 4000000 in
theorem sX9_readsPlace_L65 {g : fd_G} {hm : fd_H} {a1 : Int32} {a2 : Int32} {r : Int32 × fd_H} : ∀ (v3 : Int32) (vs0 : Int32) (h : fd_H), fX9_readsPlace_L65 a1 a2 v3 vs0 h = some r → fd_A g mX9_readsPlace fd_E (fd_rm 1 0 0) (fd_Q g (some (.int r.1)) fd_X0 (fd_mx hm r.2) 0 0) 65 [(0, .ref (g.2.2.2 + 73)), (1, .int a1), (3, .int v3)] [.int vs0] fd_X0 (fd_mx hm h) 0 0 := by
  intro v3 vs0 h hf
  unfold fX9_readsPlace_L65 at hf
  refine fr_istore (pc := 65) (lv' := [(5, .int vs0), (0, .ref (g.2.2.2 + 73)), (1, .int a1), (3, .int v3)]) dX9_readsPlace_65 (by decide) rfl ?_
  refine fr_iload_n (pc := 67) dX9_readsPlace_67 3 rfl rfl ?_
  refine fr_iconst (pc := 68) (v := (0 : Int32)) dX9_readsPlace_68 (by decide) ?_
  refine fr_bipush (pc := 69) (v := (9 : Int32)) dX9_readsPlace_69 (by decide) ?_
  obtain ⟨r2, hc1, hf⟩ := fd_bi hf
  refine fr_callSz (pc := 71) (av := [.int v3, .int (0 : Int32), .int (9 : Int32)]) dX9_readsPlace_71 yy_X9_in kw_148 rfl rfl (Nat.le_of_ble_eq_true rfl) ⟨Nat.le_of_ble_eq_true rfl, Nat.le_of_ble_eq_true rfl, Nat.zero_le _, Nat.zero_le _⟩ (sX9_in hc1) ?_
  refine fr_bn (pc := 74) 79 dX9_readsPlace_74 (by decide) (fun c3 => ?_) (fun c3 => ?_)
  · have hf := fd_t c3 hf
    refine fr_iload (pc := 79) dX9_readsPlace_79 0 rfl ?_
    refine fr_iconst (pc := 81) (v := (-1 : Int32)) dX9_readsPlace_81 (by decide) ?_
    refine fr_icmp_ne (pc := 82) 87 dX9_readsPlace_82 (by decide) (fun c4 => ?_) (fun c4 => ?_)
    · have hf := fd_f c4 hf
      refine fr_aload_n (pc := 87) dX9_readsPlace_87 1 rfl rfl ?_
      refine fr_getR (pc := 88) dX9_readsPlace_88 fl_X9_16 (by decide) rfl rfl ?_
      refine fr_iload_n (pc := 91) dX9_readsPlace_91 2 rfl rfl ?_
      refine fr_iload_n (pc := 92) dX9_readsPlace_92 3 rfl rfl ?_
      obtain ⟨g5, hf⟩ := fd_g_e hf
      obtain ⟨h6, eh6, hf⟩ := fd_lt_e hf
      refine vm_iast (pc := 93) dX9_readsPlace_93 (by decide) (by decide) rfl g5 eh6 ?_
      refine fr_aload_n (pc := 94) dX9_readsPlace_94 1 rfl rfl ?_
      refine fr_getR (pc := 95) dX9_readsPlace_95 fl_X9_19 (by decide) rfl rfl ?_
      refine fr_iload_n (pc := 98) dX9_readsPlace_98 2 rfl rfl ?_
      refine fr_iload (pc := 99) dX9_readsPlace_99 0 rfl ?_
      obtain ⟨g7, hf⟩ := fd_g_e hf
      obtain ⟨h8, eh8, hf⟩ := fd_lt_e hf
      refine vm_iast (pc := 101) dX9_readsPlace_101 (by decide) (by decide) rfl g7 eh8 ?_
      refine fr_iconst (pc := 102) (v := (2 : Int32)) dX9_readsPlace_102 (by decide) ?_
      exact vm_iretW (x := (2 : Int32)) (pc := 103) dX9_readsPlace_103 rfl hf
    · have hf := fd_t c4 hf
      refine fr_iconst (pc := 85) (v := (1 : Int32)) dX9_readsPlace_85 (by decide) ?_
      exact vm_iretW (x := (1 : Int32)) (pc := 86) dX9_readsPlace_86 rfl hf
  · have hf := fd_f c3 hf
    refine fr_iconst (pc := 77) (v := (0 : Int32)) dX9_readsPlace_77 (by decide) ?_
    exact vm_iretW (x := (0 : Int32)) (pc := 78) dX9_readsPlace_78 rfl hf
def fX9_readsPlace (a1 : Int32) (a2 : Int32) (h : fd_H) : Option (Int32 × fd_H) :=
(fX9_byteAt (0 : Int32) a2 h).bind fun r2 =>
fd_lt ((r2 - (48 : Int32))) fun x3 =>
(fX9_byteAt (0 : Int32) (a2 + (1 : Int32)) h).bind fun r5 =>
if r5 = (111 : Int32) then (
fX9_readsPlace_L65 a1 a2 x3 (0 : Int32) h)
else (
if r5 = (104 : Int32) then (
fX9_readsPlace_L65 a1 a2 x3 (1 : Int32) h)
else (
if r5 = (119 : Int32) then (
fX9_readsPlace_L65 a1 a2 x3 (2 : Int32) h)
else (
if r5 = (115 : Int32) then (
fX9_readsPlace_L65 a1 a2 x3 (3 : Int32) h)
else (
fX9_readsPlace_L65 a1 a2 x3 (-1 : Int32) h))))
set_option maxRecDepth 100000 in
set_option maxHeartbeats 4000000 in
theorem sX9_readsPlace {g : fd_G} {hm : fd_H} {a1 : Int32} {a2 : Int32} {r : Int32 × fd_H} {h : fd_H} (hf : fX9_readsPlace a1 a2 h = some r) : fd_S g mX9_readsPlace 1 [.ref (g.2.2.2 + 73), .int a1, .int a2] fd_X0 (fd_mx hm h) (some (.int r.1)) fd_X0 (fd_mx hm r.2) 0 0 := by
  refine fd_S.of (by decide +kernel) (Nat.le_of_ble_eq_true rfl) ?_
  unfold fX9_readsPlace at hf
  refine fr_loc (lv' := [(0, .ref (g.2.2.2 + 73)), (1, .int a1), (2, .int a2)]) [0, 1, 2] rfl ?_
  refine fr_aload_n (pc := 0) dX9_readsPlace_0 0 rfl rfl ?_
  refine fr_iconst (pc := 1) (v := (0 : Int32)) dX9_readsPlace_1 (by decide) ?_
  refine fr_iload_n (pc := 2) dX9_readsPlace_2 2 rfl rfl ?_
  obtain ⟨r2, hc1, hf⟩ := fd_bi hf
  refine fr_callVi (pc := 3) (av := [.int (0 : Int32), .int a2]) dX9_readsPlace_3 yy_X9_byteAt kw_152 (by decide) rfl rfl rfl rfl (Nat.le_of_ble_eq_true rfl) ⟨Nat.le_of_ble_eq_true rfl, Nat.le_of_ble_eq_true rfl, Nat.zero_le _, Nat.zero_le _⟩ (sX9_byteAt hc1) ?_
  refine fr_bipush (pc := 6) (v := (48 : Int32)) dX9_readsPlace_6 (by decide) ?_
  refine fr_isub (pc := 8) dX9_readsPlace_8 ?_
  obtain ⟨x3, ex3, hf⟩ := fd_lt_e hf
  refine fr_nmi ex3 ?_
  refine fr_istore_n (pc := 9) (lv' := [(3, .int x3), (0, .ref (g.2.2.2 + 73)), (1, .int a1), (2, .int a2)]) dX9_readsPlace_9 rfl (by decide) rfl ?_
  refine fr_aload_n (pc := 10) dX9_readsPlace_10 1 rfl rfl ?_
  refine fr_iconst (pc := 11) (v := (0 : Int32)) dX9_readsPlace_11 (by decide) ?_
  refine fr_iload_n (pc := 12) dX9_readsPlace_12 3 rfl rfl ?_
  refine fr_iconst (pc := 13) (v := (1 : Int32)) dX9_readsPlace_13 (by decide) ?_
  refine fr_iadd (pc := 14) dX9_readsPlace_14 ?_
  obtain ⟨r5, hc4, hf⟩ := fd_bi hf
  refine fr_callVi (pc := 15) (av := [.int (0 : Int32), .int (a2 + (1 : Int32))]) dX9_readsPlace_15 yy_X9_byteAt kw_152 (by decide) rfl rfl rfl rfl (Nat.le_of_ble_eq_true rfl) ⟨Nat.le_of_ble_eq_true rfl, Nat.le_of_ble_eq_true rfl, Nat.zero_le _, Nat.zero_le _⟩ (sX9_byteAt hc4) ?_
  refine fr_istore (pc := 18) (lv' := [(4, .int r5), (3, .int x3), (0, .ref (g.2.2.2 + 73)), (1, .int a1), (2, .int a2)]) dX9_readsPlace_18 (by decide) rfl ?_
  refine fr_iload (pc := 20) dX9_readsPlace_20 0 rfl ?_
  refine fr_bipush (pc := 22) (v := (111 : Int32)) dX9_readsPlace_22 (by decide) ?_
  refine fr_icmp_ne (pc := 24) 31 dX9_readsPlace_24 (by decide) (fun c6 => ?_) (fun c6 => ?_)
  · have hf := fd_f c6 hf
    refine fr_iload (pc := 31) dX9_readsPlace_31 0 rfl ?_
    refine fr_bipush (pc := 33) (v := (104 : Int32)) dX9_readsPlace_33 (by decide) ?_
    refine fr_icmp_ne (pc := 35) 42 dX9_readsPlace_35 (by decide) (fun c7 => ?_) (fun c7 => ?_)
    · have hf := fd_f c7 hf
      refine fr_iload (pc := 42) dX9_readsPlace_42 0 rfl ?_
      refine fr_bipush (pc := 44) (v := (119 : Int32)) dX9_readsPlace_44 (by decide) ?_
      refine fr_icmp_ne (pc := 46) 53 dX9_readsPlace_46 (by decide) (fun c8 => ?_) (fun c8 => ?_)
      · have hf := fd_f c8 hf
        refine fr_iload (pc := 53) dX9_readsPlace_53 0 rfl ?_
        refine fr_bipush (pc := 55) (v := (115 : Int32)) dX9_readsPlace_55 (by decide) ?_
        refine fr_icmp_ne (pc := 57) 64 dX9_readsPlace_57 (by decide) (fun c9 => ?_) (fun c9 => ?_)
        · have hf := fd_f c9 hf
          refine fr_iconst (pc := 64) (v := (-1 : Int32)) dX9_readsPlace_64 (by decide) ?_
          refine fr_loc (lv' := [(0, .ref (g.2.2.2 + 73)), (1, .int a1), (3, .int x3)]) [2, 3, 1] rfl ?_
          exact sX9_readsPlace_L65  _ _ _ hf
        · have hf := fd_t c9 hf
          refine fr_iconst (pc := 60) (v := (3 : Int32)) dX9_readsPlace_60 (by decide) ?_
          refine fr_goto (pc := 61) 65 dX9_readsPlace_61 (by decide) ?_
          refine fr_loc (lv' := [(0, .ref (g.2.2.2 + 73)), (1, .int a1), (3, .int x3)]) [2, 3, 1] rfl ?_
          exact sX9_readsPlace_L65  _ _ _ hf
      · have hf := fd_t c8 hf
        refine fr_iconst (pc := 49) (v := (2 : Int32)) dX9_readsPlace_49 (by decide) ?_
        refine fr_goto (pc := 50) 65 dX9_readsPlace_50 (by decide) ?_
        refine fr_loc (lv' := [(0, .ref (g.2.2.2 + 73)), (1, .int a1), (3, .int x3)]) [2, 3, 1] rfl ?_
        exact sX9_readsPlace_L65  _ _ _ hf
    · have hf := fd_t c7 hf
      refine fr_iconst (pc := 38) (v := (1 : Int32)) dX9_readsPlace_38 (by decide) ?_
      refine fr_goto (pc := 39) 65 dX9_readsPlace_39 (by decide) ?_
      refine fr_loc (lv' := [(0, .ref (g.2.2.2 + 73)), (1, .int a1), (3, .int x3)]) [2, 3, 1] rfl ?_
      exact sX9_readsPlace_L65  _ _ _ hf
  · have hf := fd_t c6 hf
    refine fr_iconst (pc := 27) (v := (0 : Int32)) dX9_readsPlace_27 (by decide) ?_
    refine fr_goto (pc := 28) 65 dX9_readsPlace_28 (by decide) ?_
    refine fr_loc (lv' := [(0, .ref (g.2.2.2 + 73)), (1, .int a1), (3, .int x3)]) [2, 3, 1] rfl ?_
    exact sX9_readsPlace_L65  _ _ _ hf
theorem dX9_isWell_0 : decode cX9_isWell 0 = .ok (.aload_n 0, 1) := by decide +kernel
theorem dX9_isWell_1 : decode cX9_isWell 1 = .ok (.iconst 2, 1) := by decide +kernel
theorem dX9_isWell_2 : decode cX9_isWell 2 = .ok (.iload_n 1, 1) := by decide +kernel
theorem dX9_isWell_3 : decode cX9_isWell 3 = .ok (.iload_n 2, 1) := by decide +kernel
theorem dX9_isWell_4 : decode cX9_isWell 4 = .ok (.iadd, 1) := by decide +kernel
theorem dX9_isWell_5 : decode cX9_isWell 5 = .ok (.invokevirtual 97, 3) := by decide +kernel
theorem dX9_isWell_8 : decode cX9_isWell 8 = .ok (.istore_n 3, 1) := by decide +kernel
theorem dX9_isWell_9 : decode cX9_isWell 9 = .ok (.iload_n 2, 1) := by decide +kernel
theorem dX9_isWell_10 : decode cX9_isWell 10 = .ok (.iconst 2, 1) := by decide +kernel
theorem dX9_isWell_11 : decode cX9_isWell 11 = .ok (.if_icmp .ge 12, 3) := by decide +kernel
theorem dX9_isWell_14 : decode cX9_isWell 14 = .ok (.iload_n 3, 1) := by decide +kernel
theorem dX9_isWell_15 : decode cX9_isWell 15 = .ok (.bipush 97, 2) := by decide +kernel
theorem dX9_isWell_17 : decode cX9_isWell 17 = .ok (.bipush 102, 2) := by decide +kernel
theorem dX9_isWell_19 : decode cX9_isWell 19 = .ok (.invokestatic 89, 3) := by decide +kernel
theorem dX9_isWell_22 : decode cX9_isWell 22 = .ok (.ireturn, 1) := by decide +kernel
theorem dX9_isWell_23 : decode cX9_isWell 23 = .ok (.iload_n 2, 1) := by decide +kernel
theorem dX9_isWell_24 : decode cX9_isWell 24 = .ok (.iconst 3, 1) := by decide +kernel
theorem dX9_isWell_25 : decode cX9_isWell 25 = .ok (.if_icmp .ne 39, 3) := by decide +kernel
theorem dX9_isWell_28 : decode cX9_isWell 28 = .ok (.iload_n 3, 1) := by decide +kernel
theorem dX9_isWell_29 : decode cX9_isWell 29 = .ok (.bipush 48, 2) := by decide +kernel
theorem dX9_isWell_31 : decode cX9_isWell 31 = .ok (.bipush 57, 2) := by decide +kernel
theorem dX9_isWell_33 : decode cX9_isWell 33 = .ok (.invokestatic 89, 3) := by decide +kernel
theorem dX9_isWell_36 : decode cX9_isWell 36 = .ok (.ifCond .eq 26, 3) := by decide +kernel
theorem dX9_isWell_39 : decode cX9_isWell 39 = .ok (.iload_n 3, 1) := by decide +kernel
theorem dX9_isWell_40 : decode cX9_isWell 40 = .ok (.bipush 48, 2) := by decide +kernel
theorem dX9_isWell_42 : decode cX9_isWell 42 = .ok (.if_icmp .ne 16, 3) := by decide +kernel
theorem dX9_isWell_45 : decode cX9_isWell 45 = .ok (.aload_n 0, 1) := by decide +kernel
theorem dX9_isWell_46 : decode cX9_isWell 46 = .ok (.iconst 2, 1) := by decide +kernel
theorem dX9_isWell_47 : decode cX9_isWell 47 = .ok (.iload_n 1, 1) := by decide +kernel
theorem dX9_isWell_48 : decode cX9_isWell 48 = .ok (.iconst 2, 1) := by decide +kernel
theorem dX9_isWell_49 : decode cX9_isWell 49 = .ok (.iadd, 1) := by decide +kernel
theorem dX9_isWell_50 : decode cX9_isWell 50 = .ok (.invokevirtual 97, 3) := by decide +kernel
theorem dX9_isWell_53 : decode cX9_isWell 53 = .ok (.bipush 48, 2) := by decide +kernel
theorem dX9_isWell_55 : decode cX9_isWell 55 = .ok (.if_icmp .eq 7, 3) := by decide +kernel
theorem dX9_isWell_58 : decode cX9_isWell 58 = .ok (.iconst 1, 1) := by decide +kernel
theorem dX9_isWell_59 : decode cX9_isWell 59 = .ok (.goto 4, 3) := by decide +kernel
theorem dX9_isWell_62 : decode cX9_isWell 62 = .ok (.iconst 0, 1) := by decide +kernel
theorem dX9_isWell_63 : decode cX9_isWell 63 = .ok (.ireturn, 1) := by decide +kernel
theorem dX9_isWell_64 : decode cX9_isWell 64 = .ok (.iload_n 3, 1) := by decide +kernel
theorem dX9_isWell_65 : decode cX9_isWell 65 = .ok (.bipush 48, 2) := by decide +kernel
theorem dX9_isWell_67 : decode cX9_isWell 67 = .ok (.iload_n 2, 1) := by decide +kernel
theorem dX9_isWell_68 : decode cX9_isWell 68 = .ok (.iconst 4, 1) := by decide +kernel
theorem dX9_isWell_69 : decode cX9_isWell 69 = .ok (.if_icmp .ne 8, 3) := by decide +kernel
theorem dX9_isWell_72 : decode cX9_isWell 72 = .ok (.bipush 55, 2) := by decide +kernel
theorem dX9_isWell_74 : decode cX9_isWell 74 = .ok (.goto 15, 3) := by decide +kernel
theorem dX9_isWell_77 : decode cX9_isWell 77 = .ok (.iload_n 2, 1) := by decide +kernel
theorem dX9_isWell_78 : decode cX9_isWell 78 = .ok (.iconst 5, 1) := by decide +kernel
theorem dX9_isWell_79 : decode cX9_isWell 79 = .ok (.if_icmp .ne 8, 3) := by decide +kernel
theorem dX9_isWell_82 : decode cX9_isWell 82 = .ok (.bipush 51, 2) := by decide +kernel
theorem dX9_isWell_84 : decode cX9_isWell 84 = .ok (.goto 5, 3) := by decide +kernel
theorem dX9_isWell_87 : decode cX9_isWell 87 = .ok (.bipush 57, 2) := by decide +kernel
theorem dX9_isWell_89 : decode cX9_isWell 89 = .ok (.invokestatic 89, 3) := by decide +kernel
theorem dX9_isWell_92 : decode cX9_isWell 92 = .ok (.ireturn, 1) := by decide +kernel
def fX9_isWell_L89 (a1 : Int32) (a2 : Int32) (h : fd_H) (vs0 : Int32) (vs2 : Int32) : Option (Bool) :=
(fX9_in vs2 (48 : Int32) vs0).bind fun r2 =>
some (r2)
set_option maxRecDepth 100000 in
set_option maxHeartbeats 4000000 in
theorem sX9_isWell_L89 {g : fd_G} {hm : fd_H} {a1 : Int32} {a2 : Int32} {h : fd_H} {r : Bool} : ∀ (vs0 : Int32) (vs2 : Int32), fX9_isWell_L89 a1 a2 h vs0 vs2 = some r → fd_A g mX9_isWell fd_E (fd_rm 1 0 0) (fd_Q g (some (.int (fd_b r))) fd_X0 (fd_mx hm h) 0 0) 89 [] [.int vs0, .int (48 : Int32), .int vs2] fd_X0 (fd_mx hm h) 0 0 := by
  intro vs0 vs2 hf
  unfold fX9_isWell_L89 at hf
  obtain ⟨r2, hc1, hf⟩ := fd_bi hf
  refine fr_callSz (pc := 89) (av := [.int vs2, .int (48 : Int32), .int vs0]) dX9_isWell_89 yy_X9_in kw_148 rfl rfl (Nat.le_of_ble_eq_true rfl) ⟨Nat.le_of_ble_eq_true rfl, Nat.le_of_ble_eq_true rfl, Nat.zero_le _, Nat.zero_le _⟩ (sX9_in hc1) ?_
  exact fr_zretP (x := r2) (pc := 92) dX9_isWell_92 rfl hf
def fX9_isWell (a1 : Int32) (a2 : Int32) (h : fd_H) : Option (Bool) :=
(fX9_byteAt (2 : Int32) (a1 + a2) h).bind fun r2 =>
if (2 : Int32) ≤ a2 then (
if a2 = (3 : Int32) then (
(fX9_in r2 (48 : Int32) (57 : Int32)).bind fun r8 =>
if r8 = true then (
if r2 = (48 : Int32) then (
(fX9_byteAt (2 : Int32) (a1 + (2 : Int32)) h).bind fun r12 =>
if r12 = (48 : Int32) then (
some (false))
else (
some (true)))
else (
some (true)))
else (
some (false)))
else (
if a2 = (4 : Int32) then (
fX9_isWell_L89 a1 a2 h (55 : Int32) r2)
else (
if a2 = (5 : Int32) then (
fX9_isWell_L89 a1 a2 h (51 : Int32) r2)
else (
fX9_isWell_L89 a1 a2 h (57 : Int32) r2))))
else (
(fX9_in r2 (97 : Int32) (102 : Int32)).bind fun r15 =>
some (r15))
set_option maxRecDepth 100000 in
set_option maxHeartbeats 4000000 in
theorem sX9_isWell {g : fd_G} {hm : fd_H} {a1 : Int32} {a2 : Int32} {h : fd_H} {r : Bool} (hf : fX9_isWell a1 a2 h = some r) : fd_S g mX9_isWell 1 [.ref (g.2.2.2 + 73), .int a1, .int a2] fd_X0 (fd_mx hm h) (some (.int (fd_b r))) fd_X0 (fd_mx hm h) 0 0 := by
  refine fd_S.of (by decide +kernel) (Nat.le_of_ble_eq_true rfl) ?_
  unfold fX9_isWell at hf
  refine fr_loc (lv' := [(0, .ref (g.2.2.2 + 73)), (1, .int a1), (2, .int a2)]) [0, 1, 2] rfl ?_
  refine fr_aload_n (pc := 0) dX9_isWell_0 0 rfl rfl ?_
  refine fr_iconst (pc := 1) (v := (2 : Int32)) dX9_isWell_1 (by decide) ?_
  refine fr_iload_n (pc := 2) dX9_isWell_2 1 rfl rfl ?_
  refine fr_iload_n (pc := 3) dX9_isWell_3 2 rfl rfl ?_
  refine fr_iadd (pc := 4) dX9_isWell_4 ?_
  obtain ⟨r2, hc1, hf⟩ := fd_bi hf
  refine fr_callVi (pc := 5) (av := [.int (2 : Int32), .int (a1 + a2)]) dX9_isWell_5 yy_X9_byteAt kw_152 (by decide) rfl rfl rfl rfl (Nat.le_of_ble_eq_true rfl) ⟨Nat.le_of_ble_eq_true rfl, Nat.le_of_ble_eq_true rfl, Nat.zero_le _, Nat.zero_le _⟩ (sX9_byteAt hc1) ?_
  refine fr_istore_n (pc := 8) (lv' := [(3, .int r2), (0, .ref (g.2.2.2 + 73)), (1, .int a1), (2, .int a2)]) dX9_isWell_8 rfl (by decide) rfl ?_
  refine fr_iload_n (pc := 9) dX9_isWell_9 3 rfl rfl ?_
  refine fr_iconst (pc := 10) (v := (2 : Int32)) dX9_isWell_10 (by decide) ?_
  refine fr_icmp_ge (pc := 11) 23 dX9_isWell_11 (by decide) (fun c3 => ?_) (fun c3 => ?_)
  · have hf := fd_t c3 hf
    refine fr_iload_n (pc := 23) dX9_isWell_23 3 rfl rfl ?_
    refine fr_iconst (pc := 24) (v := (3 : Int32)) dX9_isWell_24 (by decide) ?_
    refine fr_icmp_ne (pc := 25) 64 dX9_isWell_25 (by decide) (fun c4 => ?_) (fun c4 => ?_)
    · have hf := fd_f c4 hf
      refine fr_iload_n (pc := 64) dX9_isWell_64 0 rfl rfl ?_
      refine fr_bipush (pc := 65) (v := (48 : Int32)) dX9_isWell_65 (by decide) ?_
      refine fr_iload_n (pc := 67) dX9_isWell_67 3 rfl rfl ?_
      refine fr_iconst (pc := 68) (v := (4 : Int32)) dX9_isWell_68 (by decide) ?_
      refine fr_icmp_ne (pc := 69) 77 dX9_isWell_69 (by decide) (fun c5 => ?_) (fun c5 => ?_)
      · have hf := fd_f c5 hf
        refine fr_iload_n (pc := 77) dX9_isWell_77 3 rfl rfl ?_
        refine fr_iconst (pc := 78) (v := (5 : Int32)) dX9_isWell_78 (by decide) ?_
        refine fr_icmp_ne (pc := 79) 87 dX9_isWell_79 (by decide) (fun c6 => ?_) (fun c6 => ?_)
        · have hf := fd_f c6 hf
          refine fr_bipush (pc := 87) (v := (57 : Int32)) dX9_isWell_87 (by decide) ?_
          refine fr_loc (lv' := []) [] rfl ?_
          exact sX9_isWell_L89  _ _ hf
        · have hf := fd_t c6 hf
          refine fr_bipush (pc := 82) (v := (51 : Int32)) dX9_isWell_82 (by decide) ?_
          refine fr_goto (pc := 84) 89 dX9_isWell_84 (by decide) ?_
          refine fr_loc (lv' := []) [] rfl ?_
          exact sX9_isWell_L89  _ _ hf
      · have hf := fd_t c5 hf
        refine fr_bipush (pc := 72) (v := (55 : Int32)) dX9_isWell_72 (by decide) ?_
        refine fr_goto (pc := 74) 89 dX9_isWell_74 (by decide) ?_
        refine fr_loc (lv' := []) [] rfl ?_
        exact sX9_isWell_L89  _ _ hf
    · have hf := fd_t c4 hf
      refine fr_iload_n (pc := 28) dX9_isWell_28 0 rfl rfl ?_
      refine fr_bipush (pc := 29) (v := (48 : Int32)) dX9_isWell_29 (by decide) ?_
      refine fr_bipush (pc := 31) (v := (57 : Int32)) dX9_isWell_31 (by decide) ?_
      obtain ⟨r8, hc7, hf⟩ := fd_bi hf
      refine fr_callSz (pc := 33) (av := [.int r2, .int (48 : Int32), .int (57 : Int32)]) dX9_isWell_33 yy_X9_in kw_148 rfl rfl (Nat.le_of_ble_eq_true rfl) ⟨Nat.le_of_ble_eq_true rfl, Nat.le_of_ble_eq_true rfl, Nat.zero_le _, Nat.zero_le _⟩ (sX9_in hc7) ?_
      refine fr_bz (pc := 36) 62 dX9_isWell_36 (by decide) (fun c9 => ?_) (fun c9 => ?_)
      · have hf := fd_f c9 hf
        refine fr_iconst (pc := 62) (v := (0 : Int32)) dX9_isWell_62 (by decide) ?_
        exact fr_zretP (x := false) (pc := 63) dX9_isWell_63 rfl hf
      · have hf := fd_t c9 hf
        refine fr_iload_n (pc := 39) dX9_isWell_39 0 rfl rfl ?_
        refine fr_bipush (pc := 40) (v := (48 : Int32)) dX9_isWell_40 (by decide) ?_
        refine fr_icmp_ne (pc := 42) 58 dX9_isWell_42 (by decide) (fun c10 => ?_) (fun c10 => ?_)
        · have hf := fd_f c10 hf
          refine fr_iconst (pc := 58) (v := (1 : Int32)) dX9_isWell_58 (by decide) ?_
          refine fr_goto (pc := 59) 63 dX9_isWell_59 (by decide) ?_
          exact fr_zretP (x := true) (pc := 63) dX9_isWell_63 rfl hf
        · have hf := fd_t c10 hf
          refine fr_aload_n (pc := 45) dX9_isWell_45 1 rfl rfl ?_
          refine fr_iconst (pc := 46) (v := (2 : Int32)) dX9_isWell_46 (by decide) ?_
          refine fr_iload_n (pc := 47) dX9_isWell_47 2 rfl rfl ?_
          refine fr_iconst (pc := 48) (v := (2 : Int32)) dX9_isWell_48 (by decide) ?_
          refine fr_iadd (pc := 49) dX9_isWell_49 ?_
          obtain ⟨r12, hc11, hf⟩ := fd_bi hf
          refine fr_callVi (pc := 50) (av := [.int (2 : Int32), .int (a1 + (2 : Int32))]) dX9_isWell_50 yy_X9_byteAt kw_152 (by decide) rfl rfl rfl rfl (Nat.le_of_ble_eq_true rfl) ⟨Nat.le_of_ble_eq_true rfl, Nat.le_of_ble_eq_true rfl, Nat.zero_le _, Nat.zero_le _⟩ (sX9_byteAt hc11) ?_
          refine fr_bipush (pc := 53) (v := (48 : Int32)) dX9_isWell_53 (by decide) ?_
          refine fr_icmp_eq (pc := 55) 62 dX9_isWell_55 (by decide) (fun c13 => ?_) (fun c13 => ?_)
          · have hf := fd_t c13 hf
            refine fr_iconst (pc := 62) (v := (0 : Int32)) dX9_isWell_62 (by decide) ?_
            exact fr_zretP (x := false) (pc := 63) dX9_isWell_63 rfl hf
          · have hf := fd_f c13 hf
            refine fr_iconst (pc := 58) (v := (1 : Int32)) dX9_isWell_58 (by decide) ?_
            refine fr_goto (pc := 59) 63 dX9_isWell_59 (by decide) ?_
            exact fr_zretP (x := true) (pc := 63) dX9_isWell_63 rfl hf
  · have hf := fd_f c3 hf
    refine fr_iload_n (pc := 14) dX9_isWell_14 0 rfl rfl ?_
    refine fr_bipush (pc := 15) (v := (97 : Int32)) dX9_isWell_15 (by decide) ?_
    refine fr_bipush (pc := 17) (v := (102 : Int32)) dX9_isWell_17 (by decide) ?_
    obtain ⟨r15, hc14, hf⟩ := fd_bi hf
    refine fr_callSz (pc := 19) (av := [.int r2, .int (97 : Int32), .int (102 : Int32)]) dX9_isWell_19 yy_X9_in kw_148 rfl rfl (Nat.le_of_ble_eq_true rfl) ⟨Nat.le_of_ble_eq_true rfl, Nat.le_of_ble_eq_true rfl, Nat.zero_le _, Nat.zero_le _⟩ (sX9_in hc14) ?_
    exact fr_zretP (x := r15) (pc := 22) dX9_isWell_22 rfl hf
theorem dX9_readsNights_0 : decode cX9_readsNights 0 = .ok (.aload_n 0, 1) := by decide +kernel
theorem dX9_readsNights_1 : decode cX9_readsNights 1 = .ok (.iconst 0, 1) := by decide +kernel
theorem dX9_readsNights_2 : decode cX9_readsNights 2 = .ok (.putfield 117, 3) := by decide +kernel
theorem dX9_readsNights_5 : decode cX9_readsNights 5 = .ok (.iconst 0, 1) := by decide +kernel
theorem dX9_readsNights_6 : decode cX9_readsNights 6 = .ok (.istore_n 1, 1) := by decide +kernel
theorem dX9_readsNights_7 : decode cX9_readsNights 7 = .ok (.iload_n 1, 1) := by decide +kernel
theorem dX9_readsNights_8 : decode cX9_readsNights 8 = .ok (.aload_n 0, 1) := by decide +kernel
theorem dX9_readsNights_9 : decode cX9_readsNights 9 = .ok (.getfield 7, 3) := by decide +kernel
theorem dX9_readsNights_12 : decode cX9_readsNights 12 = .ok (.iconst 1, 1) := by decide +kernel
theorem dX9_readsNights_13 : decode cX9_readsNights 13 = .ok (.iaload, 1) := by decide +kernel
theorem dX9_readsNights_14 : decode cX9_readsNights 14 = .ok (.if_icmp .ge 39, 3) := by decide +kernel
theorem dX9_readsNights_17 : decode cX9_readsNights 17 = .ok (.aload_n 0, 1) := by decide +kernel
theorem dX9_readsNights_18 : decode cX9_readsNights 18 = .ok (.iconst 1, 1) := by decide +kernel
theorem dX9_readsNights_19 : decode cX9_readsNights 19 = .ok (.iload_n 1, 1) := by decide +kernel
theorem dX9_readsNights_20 : decode cX9_readsNights 20 = .ok (.invokevirtual 97, 3) := by decide +kernel
theorem dX9_readsNights_23 : decode cX9_readsNights 23 = .ok (.istore_n 2, 1) := by decide +kernel
theorem dX9_readsNights_24 : decode cX9_readsNights 24 = .ok (.iload_n 2, 1) := by decide +kernel
theorem dX9_readsNights_25 : decode cX9_readsNights 25 = .ok (.bipush 97, 2) := by decide +kernel
theorem dX9_readsNights_27 : decode cX9_readsNights 27 = .ok (.bipush 122, 2) := by decide +kernel
theorem dX9_readsNights_29 : decode cX9_readsNights 29 = .ok (.invokestatic 89, 3) := by decide +kernel
theorem dX9_readsNights_32 : decode cX9_readsNights 32 = .ok (.ifCond .ne 5, 3) := by decide +kernel
theorem dX9_readsNights_35 : decode cX9_readsNights 35 = .ok (.iload_n 1, 1) := by decide +kernel
theorem dX9_readsNights_36 : decode cX9_readsNights 36 = .ok (.ireturn, 1) := by decide +kernel
theorem dX9_readsNights_37 : decode cX9_readsNights 37 = .ok (.aload_n 0, 1) := by decide +kernel
theorem dX9_readsNights_38 : decode cX9_readsNights 38 = .ok (.getfield 22, 3) := by decide +kernel
theorem dX9_readsNights_41 : decode cX9_readsNights 41 = .ok (.iload_n 1, 1) := by decide +kernel
theorem dX9_readsNights_42 : decode cX9_readsNights 42 = .ok (.iload_n 2, 1) := by decide +kernel
theorem dX9_readsNights_43 : decode cX9_readsNights 43 = .ok (.bipush 97, 2) := by decide +kernel
theorem dX9_readsNights_45 : decode cX9_readsNights 45 = .ok (.isub, 1) := by decide +kernel
theorem dX9_readsNights_46 : decode cX9_readsNights 46 = .ok (.iastore, 1) := by decide +kernel
theorem dX9_readsNights_47 : decode cX9_readsNights 47 = .ok (.iinc 1 1, 3) := by decide +kernel
theorem dX9_readsNights_50 : decode cX9_readsNights 50 = .ok (.goto (-43), 3) := by decide +kernel
theorem dX9_readsNights_53 : decode cX9_readsNights 53 = .ok (.aload_n 0, 1) := by decide +kernel
theorem dX9_readsNights_54 : decode cX9_readsNights 54 = .ok (.aload_n 0, 1) := by decide +kernel
theorem dX9_readsNights_55 : decode cX9_readsNights 55 = .ok (.getfield 7, 3) := by decide +kernel
theorem dX9_readsNights_58 : decode cX9_readsNights 58 = .ok (.iconst 1, 1) := by decide +kernel
theorem dX9_readsNights_59 : decode cX9_readsNights 59 = .ok (.iaload, 1) := by decide +kernel
theorem dX9_readsNights_60 : decode cX9_readsNights 60 = .ok (.putfield 117, 3) := by decide +kernel
theorem dX9_readsNights_63 : decode cX9_readsNights 63 = .ok (.iconst (-1), 1) := by decide +kernel
theorem dX9_readsNights_64 : decode cX9_readsNights 64 = .ok (.ireturn, 1) := by decide +kernel
def fX9_readsNights_L7  : Nat → Int32 → fd_H → Option (Int32 × fd_H)
  | 0 => fun _ _ => none
  | n + 1 => fun v1 h =>
fd_g (fd_in (1 : Int32) 3) (
if (h.1 74 (1 : Int32).toNatClampNeg) ≤ v1 then (
fd_g (fd_in (1 : Int32) 3) (
fd_lt (fd_ui h 73 5 (h.1 74 (1 : Int32).toNatClampNeg)) fun h4 =>
some ((-1 : Int32), h4)))
else (
(fX9_byteAt (1 : Int32) v1 h).bind fun r6 =>
(fX9_in r6 (97 : Int32) (122 : Int32)).bind fun r8 =>
if r8 = true then (
fd_g (fd_in v1 41) (
fd_lt (fd_ui h 78 v1.toNatClampNeg (r6 - (97 : Int32))) fun h11 =>
fX9_readsNights_L7  n (v1 + (1 : Int32)) h11))
else (
some (v1, h))))
set_option maxRecDepth 100000 in
set_option maxHeartbeats 4000000 in
theorem sX9_readsNights_L7 {g : fd_G} {hm : fd_H} {r : Int32 × fd_H} : ∀ (n : Nat) (v1 : Int32) (h : fd_H), fX9_readsNights_L7  n v1 h = some r → fd_A g mX9_readsNights fd_E (fd_rm 1 0 0) (fd_Q g (some (.int r.1)) fd_X0 (fd_mx hm r.2) 0 0) 7 [(0, .ref (g.2.2.2 + 73)), (1, .int v1)] [] fd_X0 (fd_mx hm h) 0 0 := by
  intro n
  induction n with
  | zero =>
    intro _ _ hf
    cases hf
  | succ n ih =>
    intro v1 h hf
    rw [fX9_readsNights_L7] at hf
    refine fr_iload_n (pc := 7) dX9_readsNights_7 1 rfl rfl ?_
    refine fr_aload_n (pc := 8) dX9_readsNights_8 0 rfl rfl ?_
    refine fr_getR (pc := 9) dX9_readsNights_9 fl_X9_7 (by decide) rfl rfl ?_
    refine fr_iconst (pc := 12) (v := (1 : Int32)) dX9_readsNights_12 (by decide) ?_
    obtain ⟨g1, hf⟩ := fd_g_e hf
    refine vm_iald (pc := 13) dX9_readsNights_13 (by decide) (by decide) rfl g1 ?_
    refine fr_icmp_ge (pc := 14) 53 dX9_readsNights_14 (by decide) (fun c2 => ?_) (fun c2 => ?_)
    · have hf := fd_t c2 hf
      refine fr_aload_n (pc := 53) dX9_readsNights_53 0 rfl rfl ?_
      refine fr_aload_n (pc := 54) dX9_readsNights_54 0 rfl rfl ?_
      refine fr_getR (pc := 55) dX9_readsNights_55 fl_X9_7 (by decide) rfl rfl ?_
      refine fr_iconst (pc := 58) (v := (1 : Int32)) dX9_readsNights_58 (by decide) ?_
      obtain ⟨g3, hf⟩ := fd_g_e hf
      refine vm_iald (pc := 59) dX9_readsNights_59 (by decide) (by decide) rfl g3 ?_
      obtain ⟨h4, eh4, hf⟩ := fd_lt_e hf
      refine vm_putI (pc := 60) dX9_readsNights_60 fl_X9_117 ft_X9_5 (by decide) (by decide) rfl rfl eh4 ?_
      refine fr_iconst (pc := 63) (v := (-1 : Int32)) dX9_readsNights_63 (by decide) ?_
      exact vm_iretW (x := (-1 : Int32)) (pc := 64) dX9_readsNights_64 rfl hf
    · have hf := fd_f c2 hf
      refine fr_aload_n (pc := 17) dX9_readsNights_17 0 rfl rfl ?_
      refine fr_iconst (pc := 18) (v := (1 : Int32)) dX9_readsNights_18 (by decide) ?_
      refine fr_iload_n (pc := 19) dX9_readsNights_19 1 rfl rfl ?_
      obtain ⟨r6, hc5, hf⟩ := fd_bi hf
      refine fr_callVi (pc := 20) (av := [.int (1 : Int32), .int v1]) dX9_readsNights_20 yy_X9_byteAt kw_152 (by decide) rfl rfl rfl rfl (Nat.le_of_ble_eq_true rfl) ⟨Nat.le_of_ble_eq_true rfl, Nat.le_of_ble_eq_true rfl, Nat.zero_le _, Nat.zero_le _⟩ (sX9_byteAt hc5) ?_
      refine fr_istore_n (pc := 23) (lv' := [(2, .int r6), (0, .ref (g.2.2.2 + 73)), (1, .int v1)]) dX9_readsNights_23 rfl (by decide) rfl ?_
      refine fr_iload_n (pc := 24) dX9_readsNights_24 0 rfl rfl ?_
      refine fr_bipush (pc := 25) (v := (97 : Int32)) dX9_readsNights_25 (by decide) ?_
      refine fr_bipush (pc := 27) (v := (122 : Int32)) dX9_readsNights_27 (by decide) ?_
      obtain ⟨r8, hc7, hf⟩ := fd_bi hf
      refine fr_callSz (pc := 29) (av := [.int r6, .int (97 : Int32), .int (122 : Int32)]) dX9_readsNights_29 yy_X9_in kw_148 rfl rfl (Nat.le_of_ble_eq_true rfl) ⟨Nat.le_of_ble_eq_true rfl, Nat.le_of_ble_eq_true rfl, Nat.zero_le _, Nat.zero_le _⟩ (sX9_in hc7) ?_
      refine fr_bn (pc := 32) 37 dX9_readsNights_32 (by decide) (fun c9 => ?_) (fun c9 => ?_)
      · have hf := fd_t c9 hf
        refine fr_aload_n (pc := 37) dX9_readsNights_37 1 rfl rfl ?_
        refine fr_getR (pc := 38) dX9_readsNights_38 fl_X9_22 (by decide) rfl rfl ?_
        refine fr_iload_n (pc := 41) dX9_readsNights_41 2 rfl rfl ?_
        refine fr_iload_n (pc := 42) dX9_readsNights_42 0 rfl rfl ?_
        refine fr_bipush (pc := 43) (v := (97 : Int32)) dX9_readsNights_43 (by decide) ?_
        refine fr_isub (pc := 45) dX9_readsNights_45 ?_
        obtain ⟨g10, hf⟩ := fd_g_e hf
        obtain ⟨h11, eh11, hf⟩ := fd_lt_e hf
        refine vm_iast (pc := 46) dX9_readsNights_46 (by decide) (by decide) rfl g10 eh11 ?_
        refine fr_iinc (pc := 47) (v := (v1 + (1 : Int32))) (lv' := [(1, .int (v1 + (1 : Int32))), (2, .int r6), (0, .ref (g.2.2.2 + 73))]) dX9_readsNights_47 2 rfl rfl (by decide) rfl ?_
        refine fr_goto (pc := 50) 7 dX9_readsNights_50 (by decide) ?_
        refine fr_loc (lv' := [(0, .ref (g.2.2.2 + 73)), (1, .int (v1 + (1 : Int32)))]) [2, 0] rfl ?_
        exact ih _ _ hf
      · have hf := fd_f c9 hf
        refine fr_iload_n (pc := 35) dX9_readsNights_35 2 rfl rfl ?_
        exact vm_iretW (x := v1) (pc := 36) dX9_readsNights_36 rfl hf
def fX9_readsNights  (h : fd_H) : Option (Int32 × fd_H) :=
fd_lt (fd_ui h 73 5 (0 : Int32)) fun h1 =>
fX9_readsNights_L7  fd_fu (0 : Int32) h1
set_option maxRecDepth 100000 in
set_option maxHeartbeats 4000000 in
theorem sX9_readsNights {g : fd_G} {hm : fd_H} {r : Int32 × fd_H} {h : fd_H} (hf : fX9_readsNights  h = some r) : fd_S g mX9_readsNights 1 [.ref (g.2.2.2 + 73)] fd_X0 (fd_mx hm h) (some (.int r.1)) fd_X0 (fd_mx hm r.2) 0 0 := by
  refine fd_S.of (by decide +kernel) (Nat.le_of_ble_eq_true rfl) ?_
  unfold fX9_readsNights at hf
  refine fr_loc (lv' := [(0, .ref (g.2.2.2 + 73))]) [0] rfl ?_
  refine fr_aload_n (pc := 0) dX9_readsNights_0 0 rfl rfl ?_
  refine fr_iconst (pc := 1) (v := (0 : Int32)) dX9_readsNights_1 (by decide) ?_
  obtain ⟨h1, eh1, hf⟩ := fd_lt_e hf
  refine vm_putI (pc := 2) dX9_readsNights_2 fl_X9_117 ft_X9_5 (by decide) (by decide) rfl rfl eh1 ?_
  refine fr_iconst (pc := 5) (v := (0 : Int32)) dX9_readsNights_5 (by decide) ?_
  refine fr_istore_n (pc := 6) (lv' := [(1, .int (0 : Int32)), (0, .ref (g.2.2.2 + 73))]) dX9_readsNights_6 rfl (by decide) rfl ?_
  refine fr_loc (lv' := [(0, .ref (g.2.2.2 + 73)), (1, .int (0 : Int32))]) [1, 0] rfl ?_
  exact sX9_readsNights_L7 _  _ _ hf
theorem dX9_zero_0 : decode cX9_zero 0 = .ok (.iload_n 1, 1) := by decide +kernel
theorem dX9_zero_1 : decode cX9_zero 1 = .ok (.iconst 0, 1) := by decide +kernel
theorem dX9_zero_2 : decode cX9_zero 2 = .ok (.bipush 25, 2) := by decide +kernel
theorem dX9_zero_4 : decode cX9_zero 4 = .ok (.invokestatic 89, 3) := by decide +kernel
theorem dX9_zero_7 : decode cX9_zero 7 = .ok (.ifCond .ne 6, 3) := by decide +kernel
theorem dX9_zero_10 : decode cX9_zero 10 = .ok (.bipush (-2), 2) := by decide +kernel
theorem dX9_zero_12 : decode cX9_zero 12 = .ok (.ireturn, 1) := by decide +kernel
theorem dX9_zero_13 : decode cX9_zero 13 = .ok (.aload_n 0, 1) := by decide +kernel
theorem dX9_zero_14 : decode cX9_zero 14 = .ok (.getfield 83, 3) := by decide +kernel
theorem dX9_zero_17 : decode cX9_zero 17 = .ok (.istore_n 2, 1) := by decide +kernel
theorem dX9_zero_18 : decode cX9_zero 18 = .ok (.aload_n 0, 1) := by decide +kernel
theorem dX9_zero_19 : decode cX9_zero 19 = .ok (.iload_n 1, 1) := by decide +kernel
theorem dX9_zero_20 : decode cX9_zero 20 = .ok (.putfield 83, 3) := by decide +kernel
theorem dX9_zero_23 : decode cX9_zero 23 = .ok (.iload_n 2, 1) := by decide +kernel
theorem dX9_zero_24 : decode cX9_zero 24 = .ok (.ireturn, 1) := by decide +kernel
def fX9_zero (a1 : Int32) (h : fd_H) : Option (Int32 × fd_H) :=
(fX9_in a1 (0 : Int32) (25 : Int32)).bind fun r2 =>
if r2 = true then (
fd_lt ((h.1 73 13)) fun x4 =>
fd_lt (fd_ui h 73 13 a1) fun h5 =>
some (x4, h5))
else (
some ((-2 : Int32), h))
set_option maxRecDepth 100000 in
set_option maxHeartbeats 4000000 in
theorem sX9_zero {g : fd_G} {hm : fd_H} {a1 : Int32} {r : Int32 × fd_H} {h : fd_H} (hf : fX9_zero a1 h = some r) : fd_S g mX9_zero 1 [.ref (g.2.2.2 + 73), .int a1] fd_X0 (fd_mx hm h) (some (.int r.1)) fd_X0 (fd_mx hm r.2) 0 0 := by
  refine fd_S.of (by decide +kernel) (Nat.le_of_ble_eq_true rfl) ?_
  unfold fX9_zero at hf
  refine fr_loc (lv' := [(0, .ref (g.2.2.2 + 73)), (1, .int a1)]) [0, 1] rfl ?_
  refine fr_iload_n (pc := 0) dX9_zero_0 1 rfl rfl ?_
  refine fr_iconst (pc := 1) (v := (0 : Int32)) dX9_zero_1 (by decide) ?_
  refine fr_bipush (pc := 2) (v := (25 : Int32)) dX9_zero_2 (by decide) ?_
  obtain ⟨r2, hc1, hf⟩ := fd_bi hf
  refine fr_callSz (pc := 4) (av := [.int a1, .int (0 : Int32), .int (25 : Int32)]) dX9_zero_4 yy_X9_in kw_148 rfl rfl (Nat.le_of_ble_eq_true rfl) ⟨Nat.le_of_ble_eq_true rfl, Nat.le_of_ble_eq_true rfl, Nat.zero_le _, Nat.zero_le _⟩ (sX9_in hc1) ?_
  refine fr_bn (pc := 7) 13 dX9_zero_7 (by decide) (fun c3 => ?_) (fun c3 => ?_)
  · have hf := fd_t c3 hf
    refine fr_aload_n (pc := 13) dX9_zero_13 0 rfl rfl ?_
    refine vm_getI (pc := 14) dX9_zero_14 fl_X9_83 (by decide) (by decide) rfl rfl ?_
    obtain ⟨x4, ex4, hf⟩ := fd_lt_e hf
    refine fr_nmi ex4 ?_
    refine fr_istore_n (pc := 17) (lv' := [(2, .int x4), (0, .ref (g.2.2.2 + 73)), (1, .int a1)]) dX9_zero_17 rfl (by decide) rfl ?_
    refine fr_aload_n (pc := 18) dX9_zero_18 1 rfl rfl ?_
    refine fr_iload_n (pc := 19) dX9_zero_19 2 rfl rfl ?_
    obtain ⟨h5, eh5, hf⟩ := fd_lt_e hf
    refine vm_putI (pc := 20) dX9_zero_20 fl_X9_83 ft_X9_13 (by decide) (by decide) rfl rfl eh5 ?_
    refine fr_iload_n (pc := 23) dX9_zero_23 0 rfl rfl ?_
    exact vm_iretW (x := x4) (pc := 24) dX9_zero_24 rfl hf
  · have hf := fd_f c3 hf
    refine fr_bipush (pc := 10) (v := (-2 : Int32)) dX9_zero_10 (by decide) ?_
    exact vm_iretW (x := (-2 : Int32)) (pc := 12) dX9_zero_12 rfl hf
theorem dX9_back_0 : decode cX9_back 0 = .ok (.iload_n 1, 1) := by decide +kernel
theorem dX9_back_1 : decode cX9_back 1 = .ok (.iconst 0, 1) := by decide +kernel
theorem dX9_back_2 : decode cX9_back 2 = .ok (.iconst 2, 1) := by decide +kernel
theorem dX9_back_3 : decode cX9_back 3 = .ok (.invokestatic 89, 3) := by decide +kernel
theorem dX9_back_6 : decode cX9_back 6 = .ok (.ifCond .ne 6, 3) := by decide +kernel
theorem dX9_back_9 : decode cX9_back 9 = .ok (.bipush (-2), 2) := by decide +kernel
theorem dX9_back_11 : decode cX9_back 11 = .ok (.ireturn, 1) := by decide +kernel
theorem dX9_back_12 : decode cX9_back 12 = .ok (.aload_n 0, 1) := by decide +kernel
theorem dX9_back_13 : decode cX9_back 13 = .ok (.getfield 40, 3) := by decide +kernel
theorem dX9_back_16 : decode cX9_back 16 = .ok (.iload_n 1, 1) := by decide +kernel
theorem dX9_back_17 : decode cX9_back 17 = .ok (.iaload, 1) := by decide +kernel
theorem dX9_back_18 : decode cX9_back 18 = .ok (.ifCond .ne 6, 3) := by decide +kernel
theorem dX9_back_21 : decode cX9_back 21 = .ok (.bipush (-3), 2) := by decide +kernel
theorem dX9_back_23 : decode cX9_back 23 = .ok (.ireturn, 1) := by decide +kernel
theorem dX9_back_24 : decode cX9_back 24 = .ok (.aload_n 0, 1) := by decide +kernel
theorem dX9_back_25 : decode cX9_back 25 = .ok (.getfield 40, 3) := by decide +kernel
theorem dX9_back_28 : decode cX9_back 28 = .ok (.iload_n 1, 1) := by decide +kernel
theorem dX9_back_29 : decode cX9_back 29 = .ok (.dup2, 1) := by decide +kernel
theorem dX9_back_30 : decode cX9_back 30 = .ok (.iaload, 1) := by decide +kernel
theorem dX9_back_31 : decode cX9_back 31 = .ok (.iconst 1, 1) := by decide +kernel
theorem dX9_back_32 : decode cX9_back 32 = .ok (.isub, 1) := by decide +kernel
theorem dX9_back_33 : decode cX9_back 33 = .ok (.iastore, 1) := by decide +kernel
theorem dX9_back_34 : decode cX9_back 34 = .ok (.aload_n 0, 1) := by decide +kernel
theorem dX9_back_35 : decode cX9_back 35 = .ok (.getfield 40, 3) := by decide +kernel
theorem dX9_back_38 : decode cX9_back 38 = .ok (.iload_n 1, 1) := by decide +kernel
theorem dX9_back_39 : decode cX9_back 39 = .ok (.iaload, 1) := by decide +kernel
theorem dX9_back_40 : decode cX9_back 40 = .ok (.ireturn, 1) := by decide +kernel
def fX9_back (a1 : Int32) (h : fd_H) : Option (Int32 × fd_H) :=
(fX9_in a1 (0 : Int32) (2 : Int32)).bind fun r2 =>
if r2 = true then (
fd_g (fd_in a1 3) (
if (h.1 84 a1.toNatClampNeg) = 0 then (
some ((-3 : Int32), h))
else (
fd_g (fd_in a1 3) (
fd_g (fd_in a1 3) (
fd_lt (fd_ui h 84 a1.toNatClampNeg ((h.1 84 a1.toNatClampNeg) - (1 : Int32))) fun h8 =>
fd_g (fd_in a1 3) (
some ((h8.1 84 a1.toNatClampNeg), h8)))))))
else (
some ((-2 : Int32), h))
set_option maxRecDepth 100000 in
set_option maxHeartbeats 4000000 in
theorem sX9_back {g : fd_G} {hm : fd_H} {a1 : Int32} {r : Int32 × fd_H} {h : fd_H} (hf : fX9_back a1 h = some r) : fd_S g mX9_back 1 [.ref (g.2.2.2 + 73), .int a1] fd_X0 (fd_mx hm h) (some (.int r.1)) fd_X0 (fd_mx hm r.2) 0 0 := by
  refine fd_S.of (by decide +kernel) (Nat.le_of_ble_eq_true rfl) ?_
  unfold fX9_back at hf
  refine fr_loc (lv' := [(0, .ref (g.2.2.2 + 73)), (1, .int a1)]) [0, 1] rfl ?_
  refine fr_iload_n (pc := 0) dX9_back_0 1 rfl rfl ?_
  refine fr_iconst (pc := 1) (v := (0 : Int32)) dX9_back_1 (by decide) ?_
  refine fr_iconst (pc := 2) (v := (2 : Int32)) dX9_back_2 (by decide) ?_
  obtain ⟨r2, hc1, hf⟩ := fd_bi hf
  refine fr_callSz (pc := 3) (av := [.int a1, .int (0 : Int32), .int (2 : Int32)]) dX9_back_3 yy_X9_in kw_148 rfl rfl (Nat.le_of_ble_eq_true rfl) ⟨Nat.le_of_ble_eq_true rfl, Nat.le_of_ble_eq_true rfl, Nat.zero_le _, Nat.zero_le _⟩ (sX9_in hc1) ?_
  refine fr_bn (pc := 6) 12 dX9_back_6 (by decide) (fun c3 => ?_) (fun c3 => ?_)
  · have hf := fd_t c3 hf
    refine fr_aload_n (pc := 12) dX9_back_12 0 rfl rfl ?_
    refine fr_getR (pc := 13) dX9_back_13 fl_X9_40 (by decide) rfl rfl ?_
    refine fr_iload_n (pc := 16) dX9_back_16 1 rfl rfl ?_
    obtain ⟨g4, hf⟩ := fd_g_e hf
    refine vm_iald (pc := 17) dX9_back_17 (by decide) (by decide) rfl g4 ?_
    refine fr_if_ne (pc := 18) 24 dX9_back_18 (by decide) (fun c5 => ?_) (fun c5 => ?_)
    · have hf := fd_f c5 hf
      refine fr_aload_n (pc := 24) dX9_back_24 0 rfl rfl ?_
      refine fr_getR (pc := 25) dX9_back_25 fl_X9_40 (by decide) rfl rfl ?_
      refine fr_iload_n (pc := 28) dX9_back_28 1 rfl rfl ?_
      refine fr_dup2 (pc := 29) dX9_back_29 rfl rfl ?_
      obtain ⟨g6, hf⟩ := fd_g_e hf
      refine vm_iald (pc := 30) dX9_back_30 (by decide) (by decide) rfl g6 ?_
      refine fr_iconst (pc := 31) (v := (1 : Int32)) dX9_back_31 (by decide) ?_
      refine fr_isub (pc := 32) dX9_back_32 ?_
      obtain ⟨g7, hf⟩ := fd_g_e hf
      obtain ⟨h8, eh8, hf⟩ := fd_lt_e hf
      refine vm_iast (pc := 33) dX9_back_33 (by decide) (by decide) rfl g7 eh8 ?_
      refine fr_aload_n (pc := 34) dX9_back_34 0 rfl rfl ?_
      refine fr_getR (pc := 35) dX9_back_35 fl_X9_40 (by decide) rfl rfl ?_
      refine fr_iload_n (pc := 38) dX9_back_38 1 rfl rfl ?_
      obtain ⟨g9, hf⟩ := fd_g_e hf
      refine vm_iald (pc := 39) dX9_back_39 (by decide) (by decide) rfl g9 ?_
      exact vm_iretW (x := (h8.1 84 a1.toNatClampNeg)) (pc := 40) dX9_back_40 rfl hf
    · have hf := fd_t c5 hf
      refine fr_bipush (pc := 21) (v := (-3 : Int32)) dX9_back_21 (by decide) ?_
      exact vm_iretW (x := (-3 : Int32)) (pc := 23) dX9_back_23 rfl hf
  · have hf := fd_f c3 hf
    refine fr_bipush (pc := 9) (v := (-2 : Int32)) dX9_back_9 (by decide) ?_
    exact vm_iretW (x := (-2 : Int32)) (pc := 11) dX9_back_11 rfl hf
theorem dX9_isCold_0 : decode cX9_isCold 0 = .ok (.aload_n 0, 1) := by decide +kernel
theorem dX9_isCold_1 : decode cX9_isCold 1 = .ok (.getfield 19, 3) := by decide +kernel
theorem dX9_isCold_4 : decode cX9_isCold 4 = .ok (.iload_n 2, 1) := by decide +kernel
theorem dX9_isCold_5 : decode cX9_isCold 5 = .ok (.iaload, 1) := by decide +kernel
theorem dX9_isCold_6 : decode cX9_isCold 6 = .ok (.iconst 3, 1) := by decide +kernel
theorem dX9_isCold_7 : decode cX9_isCold 7 = .ok (.if_icmp .ne 13, 3) := by decide +kernel
theorem dX9_isCold_10 : decode cX9_isCold 10 = .ok (.iload_n 1, 1) := by decide +kernel
theorem dX9_isCold_11 : decode cX9_isCold 11 = .ok (.bipush 20, 2) := by decide +kernel
theorem dX9_isCold_13 : decode cX9_isCold 13 = .ok (.if_icmp .ge 7, 3) := by decide +kernel
theorem dX9_isCold_16 : decode cX9_isCold 16 = .ok (.iconst 1, 1) := by decide +kernel
theorem dX9_isCold_17 : decode cX9_isCold 17 = .ok (.goto 4, 3) := by decide +kernel
theorem dX9_isCold_20 : decode cX9_isCold 20 = .ok (.iconst 0, 1) := by decide +kernel
theorem dX9_isCold_21 : decode cX9_isCold 21 = .ok (.istore_n 3, 1) := by decide +kernel
theorem dX9_isCold_22 : decode cX9_isCold 22 = .ok (.aload_n 0, 1) := by decide +kernel
theorem dX9_isCold_23 : decode cX9_isCold 23 = .ok (.iload_n 1, 1) := by decide +kernel
theorem dX9_isCold_24 : decode cX9_isCold 24 = .ok (.iload_n 2, 1) := by decide +kernel
theorem dX9_isCold_25 : decode cX9_isCold 25 = .ok (.invokevirtual 159, 3) := by decide +kernel
theorem dX9_isCold_28 : decode cX9_isCold 28 = .ok (.aload_n 0, 1) := by decide +kernel
theorem dX9_isCold_29 : decode cX9_isCold 29 = .ok (.getfield 83, 3) := by decide +kernel
theorem dX9_isCold_32 : decode cX9_isCold 32 = .ok (.if_icmp .ge 21, 3) := by decide +kernel
theorem dX9_isCold_35 : decode cX9_isCold 35 = .ok (.iload_n 3, 1) := by decide +kernel
theorem dX9_isCold_36 : decode cX9_isCold 36 = .ok (.ifCond .ne 17, 3) := by decide +kernel
theorem dX9_isCold_39 : decode cX9_isCold 39 = .ok (.aload_n 0, 1) := by decide +kernel
theorem dX9_isCold_40 : decode cX9_isCold 40 = .ok (.iconst 1, 1) := by decide +kernel
theorem dX9_isCold_41 : decode cX9_isCold 41 = .ok (.iload_n 1, 1) := by decide +kernel
theorem dX9_isCold_42 : decode cX9_isCold 42 = .ok (.iload_n 2, 1) := by decide +kernel
theorem dX9_isCold_43 : decode cX9_isCold 43 = .ok (.invokevirtual 162, 3) := by decide +kernel
theorem dX9_isCold_46 : decode cX9_isCold 46 = .ok (.ifCond .ne 7, 3) := by decide +kernel
theorem dX9_isCold_49 : decode cX9_isCold 49 = .ok (.iconst 1, 1) := by decide +kernel
theorem dX9_isCold_50 : decode cX9_isCold 50 = .ok (.goto 4, 3) := by decide +kernel
theorem dX9_isCold_53 : decode cX9_isCold 53 = .ok (.iconst 0, 1) := by decide +kernel
theorem dX9_isCold_54 : decode cX9_isCold 54 = .ok (.ireturn, 1) := by decide +kernel
def fX9_isCold_L21 (a1 : Int32) (a2 : Int32) (h : fd_H) (vs0 : Bool) : Option (Bool) :=
(fX9_warmthBy a1 a2 h).bind fun r2 =>
if (h.1 73 13) ≤ r2 then (
some (false))
else (
if vs0 = true then (
some (false))
else (
(fX9_isTold (1 : Int32) a1 a2 h).bind fun r6 =>
if r6 = true then (
some (false))
else (
some (true))))
set_option maxRecDepth 100000 in
set_option maxHeartbeats 4000000 in
theorem sX9_isCold_L21 {g : fd_G} {hm : fd_H} {a1 : Int32} {a2 : Int32} {h : fd_H} {r : Bool} : ∀ (vs0 : Bool), fX9_isCold_L21 a1 a2 h vs0 = some r → fd_A g mX9_isCold fd_E (fd_rm 1 0 0) (fd_Q g (some (.int (fd_b r))) fd_X0 (fd_mx hm h) 0 0) 21 [(0, .ref (g.2.2.2 + 73)), (1, .int a1), (2, .int a2)] [.int (fd_b vs0)] fd_X0 (fd_mx hm h) 0 0 := by
  intro vs0 hf
  unfold fX9_isCold_L21 at hf
  refine fr_istore_n (pc := 21) (lv' := [(3, .int (fd_b vs0)), (0, .ref (g.2.2.2 + 73)), (1, .int a1), (2, .int a2)]) dX9_isCold_21 rfl (by decide) rfl ?_
  refine fr_aload_n (pc := 22) dX9_isCold_22 1 rfl rfl ?_
  refine fr_iload_n (pc := 23) dX9_isCold_23 2 rfl rfl ?_
  refine fr_iload_n (pc := 24) dX9_isCold_24 3 rfl rfl ?_
  obtain ⟨r2, hc1, hf⟩ := fd_bi hf
  refine fr_callVi (pc := 25) (av := [.int a1, .int a2]) dX9_isCold_25 yy_X9_warmthBy kw_158 (by decide) rfl rfl rfl rfl (Nat.le_of_ble_eq_true rfl) ⟨Nat.le_of_ble_eq_true rfl, Nat.le_of_ble_eq_true rfl, Nat.zero_le _, Nat.zero_le _⟩ (sX9_warmthBy hc1) ?_
  refine fr_aload_n (pc := 28) dX9_isCold_28 1 rfl rfl ?_
  refine vm_getI (pc := 29) dX9_isCold_29 fl_X9_83 (by decide) (by decide) rfl rfl ?_
  refine fr_icmp_ge (pc := 32) 53 dX9_isCold_32 (by decide) (fun c3 => ?_) (fun c3 => ?_)
  · have hf := fd_t c3 hf
    refine fr_iconst (pc := 53) (v := (0 : Int32)) dX9_isCold_53 (by decide) ?_
    exact fr_zretP (x := false) (pc := 54) dX9_isCold_54 rfl hf
  · have hf := fd_f c3 hf
    refine fr_iload_n (pc := 35) dX9_isCold_35 0 rfl rfl ?_
    refine fr_bn (pc := 36) 53 dX9_isCold_36 (by decide) (fun c4 => ?_) (fun c4 => ?_)
    · have hf := fd_t c4 hf
      refine fr_iconst (pc := 53) (v := (0 : Int32)) dX9_isCold_53 (by decide) ?_
      exact fr_zretP (x := false) (pc := 54) dX9_isCold_54 rfl hf
    · have hf := fd_f c4 hf
      refine fr_aload_n (pc := 39) dX9_isCold_39 1 rfl rfl ?_
      refine fr_iconst (pc := 40) (v := (1 : Int32)) dX9_isCold_40 (by decide) ?_
      refine fr_iload_n (pc := 41) dX9_isCold_41 2 rfl rfl ?_
      refine fr_iload_n (pc := 42) dX9_isCold_42 3 rfl rfl ?_
      obtain ⟨r6, hc5, hf⟩ := fd_bi hf
      refine fr_callVz (pc := 43) (av := [.int (1 : Int32), .int a1, .int a2]) dX9_isCold_43 yy_X9_isTold kw_162 (by decide) rfl rfl rfl rfl (Nat.le_of_ble_eq_true rfl) ⟨Nat.le_of_ble_eq_true rfl, Nat.le_of_ble_eq_true rfl, Nat.zero_le _, Nat.zero_le _⟩ (sX9_isTold hc5) ?_
      refine fr_bn (pc := 46) 53 dX9_isCold_46 (by decide) (fun c7 => ?_) (fun c7 => ?_)
      · have hf := fd_t c7 hf
        refine fr_iconst (pc := 53) (v := (0 : Int32)) dX9_isCold_53 (by decide) ?_
        exact fr_zretP (x := false) (pc := 54) dX9_isCold_54 rfl hf
      · have hf := fd_f c7 hf
        refine fr_iconst (pc := 49) (v := (1 : Int32)) dX9_isCold_49 (by decide) ?_
        refine fr_goto (pc := 50) 54 dX9_isCold_50 (by decide) ?_
        exact fr_zretP (x := true) (pc := 54) dX9_isCold_54 rfl hf
def fX9_isCold_L20 (a1 : Int32) (a2 : Int32) (h : fd_H)  : Option (Bool) :=
fX9_isCold_L21 a1 a2 h false
set_option maxRecDepth 100000 in
set_option maxHeartbeats 4000000 in
theorem sX9_isCold_L20 {g : fd_G} {hm : fd_H} {a1 : Int32} {a2 : Int32} {h : fd_H} {r : Bool} : fX9_isCold_L20 a1 a2 h  = some r → fd_A g mX9_isCold fd_E (fd_rm 1 0 0) (fd_Q g (some (.int (fd_b r))) fd_X0 (fd_mx hm h) 0 0) 20 [(0, .ref (g.2.2.2 + 73)), (1, .int a1), (2, .int a2)] [] fd_X0 (fd_mx hm h) 0 0 := by
  intro  hf
  unfold fX9_isCold_L20 at hf
  refine fr_iconst (pc := 20) (v := (0 : Int32)) dX9_isCold_20 (by decide) ?_
  refine fr_loc (lv' := [(0, .ref (g.2.2.2 + 73)), (1, .int a1), (2, .int a2)]) [0, 1, 2] rfl ?_
  exact sX9_isCold_L21  _ hf
def fX9_isCold (a1 : Int32) (a2 : Int32) (h : fd_H) : Option (Bool) :=
fd_g (fd_in a2 9) (
if (h.1 77 a2.toNatClampNeg) = (3 : Int32) then (
if (20 : Int32) ≤ a1 then (
fX9_isCold_L20 a1 a2 h )
else (
fX9_isCold_L21 a1 a2 h true))
else (
fX9_isCold_L20 a1 a2 h ))
set_option maxRecDepth 100000 in
set_option maxHeartbeats 4000000 in
theorem sX9_isCold {g : fd_G} {hm : fd_H} {a1 : Int32} {a2 : Int32} {h : fd_H} {r : Bool} (hf : fX9_isCold a1 a2 h = some r) : fd_S g mX9_isCold 1 [.ref (g.2.2.2 + 73), .int a1, .int a2] fd_X0 (fd_mx hm h) (some (.int (fd_b r))) fd_X0 (fd_mx hm h) 0 0 := by
  refine fd_S.of (by decide +kernel) (Nat.le_of_ble_eq_true rfl) ?_
  unfold fX9_isCold at hf
  refine fr_loc (lv' := [(0, .ref (g.2.2.2 + 73)), (1, .int a1), (2, .int a2)]) [0, 1, 2] rfl ?_
  refine fr_aload_n (pc := 0) dX9_isCold_0 0 rfl rfl ?_
  refine fr_getR (pc := 1) dX9_isCold_1 fl_X9_19 (by decide) rfl rfl ?_
  refine fr_iload_n (pc := 4) dX9_isCold_4 2 rfl rfl ?_
  obtain ⟨g1, hf⟩ := fd_g_e hf
  refine vm_iald (pc := 5) dX9_isCold_5 (by decide) (by decide) rfl g1 ?_
  refine fr_iconst (pc := 6) (v := (3 : Int32)) dX9_isCold_6 (by decide) ?_
  refine fr_icmp_ne (pc := 7) 20 dX9_isCold_7 (by decide) (fun c2 => ?_) (fun c2 => ?_)
  · have hf := fd_f c2 hf
    refine fr_loc (lv' := [(0, .ref (g.2.2.2 + 73)), (1, .int a1), (2, .int a2)]) [0, 1, 2] rfl ?_
    exact sX9_isCold_L20   hf
  · have hf := fd_t c2 hf
    refine fr_iload_n (pc := 10) dX9_isCold_10 1 rfl rfl ?_
    refine fr_bipush (pc := 11) (v := (20 : Int32)) dX9_isCold_11 (by decide) ?_
    refine fr_icmp_ge (pc := 13) 20 dX9_isCold_13 (by decide) (fun c3 => ?_) (fun c3 => ?_)
    · have hf := fd_t c3 hf
      refine fr_loc (lv' := [(0, .ref (g.2.2.2 + 73)), (1, .int a1), (2, .int a2)]) [0, 1, 2] rfl ?_
      exact sX9_isCold_L20   hf
    · have hf := fd_f c3 hf
      refine fr_iconst (pc := 16) (v := (1 : Int32)) dX9_isCold_16 (by decide) ?_
      refine fr_goto (pc := 17) 21 dX9_isCold_17 (by decide) ?_
      refine fr_loc (lv' := [(0, .ref (g.2.2.2 + 73)), (1, .int a1), (2, .int a2)]) [0, 1, 2] rfl ?_
      exact sX9_isCold_L21  _ hf
theorem dX9_isStanding_0 : decode cX9_isStanding 0 = .ok (.iload_n 2, 1) := by decide +kernel
theorem dX9_isStanding_1 : decode cX9_isStanding 1 = .ok (.aload_n 0, 1) := by decide +kernel
theorem dX9_isStanding_2 : decode cX9_isStanding 2 = .ok (.getfield 105, 3) := by decide +kernel
theorem dX9_isStanding_5 : decode cX9_isStanding 5 = .ok (.if_icmp .ge 26, 3) := by decide +kernel
theorem dX9_isStanding_8 : decode cX9_isStanding 8 = .ok (.iload_n 3, 1) := by decide +kernel
theorem dX9_isStanding_9 : decode cX9_isStanding 9 = .ok (.aload_n 0, 1) := by decide +kernel
theorem dX9_isStanding_10 : decode cX9_isStanding 10 = .ok (.getfield 37, 3) := by decide +kernel
theorem dX9_isStanding_13 : decode cX9_isStanding 13 = .ok (.iload_n 1, 1) := by decide +kernel
theorem dX9_isStanding_14 : decode cX9_isStanding 14 = .ok (.iaload, 1) := by decide +kernel
theorem dX9_isStanding_15 : decode cX9_isStanding 15 = .ok (.if_icmp .lt 16, 3) := by decide +kernel
theorem dX9_isStanding_18 : decode cX9_isStanding 18 = .ok (.aload_n 0, 1) := by decide +kernel
theorem dX9_isStanding_19 : decode cX9_isStanding 19 = .ok (.iload_n 2, 1) := by decide +kernel
theorem dX9_isStanding_20 : decode cX9_isStanding 20 = .ok (.iload_n 3, 1) := by decide +kernel
theorem dX9_isStanding_21 : decode cX9_isStanding 21 = .ok (.invokevirtual 186, 3) := by decide +kernel
theorem dX9_isStanding_24 : decode cX9_isStanding 24 = .ok (.ifCond .ne 7, 3) := by decide +kernel
theorem dX9_isStanding_27 : decode cX9_isStanding 27 = .ok (.iconst 1, 1) := by decide +kernel
theorem dX9_isStanding_28 : decode cX9_isStanding 28 = .ok (.goto 4, 3) := by decide +kernel
theorem dX9_isStanding_31 : decode cX9_isStanding 31 = .ok (.iconst 0, 1) := by decide +kernel
theorem dX9_isStanding_32 : decode cX9_isStanding 32 = .ok (.ireturn, 1) := by decide +kernel
def fX9_isStanding (a1 : Int32) (a2 : Int32) (a3 : Int32) (h : fd_H) : Option (Bool) :=
if (h.1 73 2) ≤ a2 then (
some (false))
else (
fd_g (fd_in a1 10) (
if a3 < (h.1 83 a1.toNatClampNeg) then (
some (false))
else (
(fX9_hasHad a2 a3 h).bind fun r5 =>
if r5 = true then (
some (false))
else (
some (true)))))
set_option maxRecDepth 100000 in
set_option maxHeartbeats 4000000 in
theorem sX9_isStanding {g : fd_G} {hm : fd_H} {a1 : Int32} {a2 : Int32} {a3 : Int32} {h : fd_H} {r : Bool} (hf : fX9_isStanding a1 a2 a3 h = some r) : fd_S g mX9_isStanding 1 [.ref (g.2.2.2 + 73), .int a1, .int a2, .int a3] fd_X0 (fd_mx hm h) (some (.int (fd_b r))) fd_X0 (fd_mx hm h) 0 0 := by
  refine fd_S.of (by decide +kernel) (Nat.le_of_ble_eq_true rfl) ?_
  unfold fX9_isStanding at hf
  refine fr_loc (lv' := [(0, .ref (g.2.2.2 + 73)), (1, .int a1), (2, .int a2), (3, .int a3)]) [0, 1, 2, 3] rfl ?_
  refine fr_iload_n (pc := 0) dX9_isStanding_0 2 rfl rfl ?_
  refine fr_aload_n (pc := 1) dX9_isStanding_1 0 rfl rfl ?_
  refine vm_getI (pc := 2) dX9_isStanding_2 fl_X9_105 (by decide) (by decide) rfl rfl ?_
  refine fr_icmp_ge (pc := 5) 31 dX9_isStanding_5 (by decide) (fun c1 => ?_) (fun c1 => ?_)
  · have hf := fd_t c1 hf
    refine fr_iconst (pc := 31) (v := (0 : Int32)) dX9_isStanding_31 (by decide) ?_
    exact fr_zretP (x := false) (pc := 32) dX9_isStanding_32 rfl hf
  · have hf := fd_f c1 hf
    refine fr_iload_n (pc := 8) dX9_isStanding_8 3 rfl rfl ?_
    refine fr_aload_n (pc := 9) dX9_isStanding_9 0 rfl rfl ?_
    refine fr_getR (pc := 10) dX9_isStanding_10 fl_X9_37 (by decide) rfl rfl ?_
    refine fr_iload_n (pc := 13) dX9_isStanding_13 1 rfl rfl ?_
    obtain ⟨g2, hf⟩ := fd_g_e hf
    refine vm_iald (pc := 14) dX9_isStanding_14 (by decide) (by decide) rfl g2 ?_
    refine fr_icmp_lt (pc := 15) 31 dX9_isStanding_15 (by decide) (fun c3 => ?_) (fun c3 => ?_)
    · have hf := fd_t c3 hf
      refine fr_iconst (pc := 31) (v := (0 : Int32)) dX9_isStanding_31 (by decide) ?_
      exact fr_zretP (x := false) (pc := 32) dX9_isStanding_32 rfl hf
    · have hf := fd_f c3 hf
      refine fr_aload_n (pc := 18) dX9_isStanding_18 0 rfl rfl ?_
      refine fr_iload_n (pc := 19) dX9_isStanding_19 2 rfl rfl ?_
      refine fr_iload_n (pc := 20) dX9_isStanding_20 3 rfl rfl ?_
      obtain ⟨r5, hc4, hf⟩ := fd_bi hf
      refine fr_callVz (pc := 21) (av := [.int a2, .int a3]) dX9_isStanding_21 yy_X9_hasHad kw_166 (by decide) rfl rfl rfl rfl (Nat.le_of_ble_eq_true rfl) ⟨Nat.le_of_ble_eq_true rfl, Nat.le_of_ble_eq_true rfl, Nat.zero_le _, Nat.zero_le _⟩ (sX9_hasHad hc4) ?_
      refine fr_bn (pc := 24) 31 dX9_isStanding_24 (by decide) (fun c6 => ?_) (fun c6 => ?_)
      · have hf := fd_t c6 hf
        refine fr_iconst (pc := 31) (v := (0 : Int32)) dX9_isStanding_31 (by decide) ?_
        exact fr_zretP (x := false) (pc := 32) dX9_isStanding_32 rfl hf
      · have hf := fd_f c6 hf
        refine fr_iconst (pc := 27) (v := (1 : Int32)) dX9_isStanding_27 (by decide) ?_
        refine fr_goto (pc := 28) 32 dX9_isStanding_28 (by decide) ?_
        exact fr_zretP (x := true) (pc := 32) dX9_isStanding_32 rfl hf
theorem dX9_isSheet_0 : decode cX9_isSheet 0 = .ok (.iload_n 0, 1) := by decide +kernel
theorem dX9_isSheet_1 : decode cX9_isSheet 1 = .ok (.iconst 0, 1) := by decide +kernel
theorem dX9_isSheet_2 : decode cX9_isSheet 2 = .ok (.iconst 3, 1) := by decide +kernel
theorem dX9_isSheet_3 : decode cX9_isSheet 3 = .ok (.invokestatic 89, 3) := by decide +kernel
theorem dX9_isSheet_6 : decode cX9_isSheet 6 = .ok (.ireturn, 1) := by decide +kernel
def fX9_isSheet (a0 : Int32) : Option (Bool) :=
(fX9_in a0 (0 : Int32) (3 : Int32)).bind fun r2 =>
some (r2)
set_option maxRecDepth 100000 in
set_option maxHeartbeats 4000000 in
theorem sX9_isSheet {g : fd_G} {a0 : Int32} {h : fd_H} {r : Bool} (hf : fX9_isSheet a0 = some r) : fd_S g mX9_isSheet 1 [.int a0] fd_X0 h (some (.int (fd_b r))) fd_X0 h 0 0 := by
  refine fd_S.of (by decide +kernel) (Nat.le_of_ble_eq_true rfl) ?_
  unfold fX9_isSheet at hf
  refine fr_loc (lv' := [(0, .int a0)]) [0] rfl ?_
  refine fr_iload_n (pc := 0) dX9_isSheet_0 0 rfl rfl ?_
  refine fr_iconst (pc := 1) (v := (0 : Int32)) dX9_isSheet_1 (by decide) ?_
  refine fr_iconst (pc := 2) (v := (3 : Int32)) dX9_isSheet_2 (by decide) ?_
  obtain ⟨r2, hc1, hf⟩ := fd_bi hf
  refine fr_callSz (pc := 3) (av := [.int a0, .int (0 : Int32), .int (3 : Int32)]) dX9_isSheet_3 yy_X9_in kw_148 rfl rfl (Nat.le_of_ble_eq_true rfl) ⟨Nat.le_of_ble_eq_true rfl, Nat.le_of_ble_eq_true rfl, Nat.zero_le _, Nat.zero_le _⟩ (sX9_in hc1) ?_
  exact fr_zretP (x := r2) (pc := 6) dX9_isSheet_6 rfl hf
theorem dX9_lacks_0 : decode cX9_lacks 0 = .ok (.aload_n 0, 1) := by decide +kernel
theorem dX9_lacks_1 : decode cX9_lacks 1 = .ok (.getfield 68, 3) := by decide +kernel
theorem dX9_lacks_4 : decode cX9_lacks 4 = .ok (.iload_n 1, 1) := by decide +kernel
theorem dX9_lacks_5 : decode cX9_lacks 5 = .ok (.baload, 1) := by decide +kernel
theorem dX9_lacks_6 : decode cX9_lacks 6 = .ok (.ifCond .ne 7, 3) := by decide +kernel
theorem dX9_lacks_9 : decode cX9_lacks 9 = .ok (.iconst 1, 1) := by decide +kernel
theorem dX9_lacks_10 : decode cX9_lacks 10 = .ok (.goto 38, 3) := by decide +kernel
theorem dX9_lacks_13 : decode cX9_lacks 13 = .ok (.aload_n 0, 1) := by decide +kernel
theorem dX9_lacks_14 : decode cX9_lacks 14 = .ok (.getfield 71, 3) := by decide +kernel
theorem dX9_lacks_17 : decode cX9_lacks 17 = .ok (.iload_n 1, 1) := by decide +kernel
theorem dX9_lacks_18 : decode cX9_lacks 18 = .ok (.iaload, 1) := by decide +kernel
theorem dX9_lacks_19 : decode cX9_lacks 19 = .ok (.iload_n 2, 1) := by decide +kernel
theorem dX9_lacks_20 : decode cX9_lacks 20 = .ok (.if_icmp .eq 7, 3) := by decide +kernel
theorem dX9_lacks_23 : decode cX9_lacks 23 = .ok (.iconst 3, 1) := by decide +kernel
theorem dX9_lacks_24 : decode cX9_lacks 24 = .ok (.goto 24, 3) := by decide +kernel
theorem dX9_lacks_27 : decode cX9_lacks 27 = .ok (.iload_n 3, 1) := by decide +kernel
theorem dX9_lacks_28 : decode cX9_lacks 28 = .ok (.iconst 0, 1) := by decide +kernel
theorem dX9_lacks_29 : decode cX9_lacks 29 = .ok (.aload_n 0, 1) := by decide +kernel
theorem dX9_lacks_30 : decode cX9_lacks 30 = .ok (.getfield 74, 3) := by decide +kernel
theorem dX9_lacks_33 : decode cX9_lacks 33 = .ok (.iload_n 1, 1) := by decide +kernel
theorem dX9_lacks_34 : decode cX9_lacks 34 = .ok (.iaload, 1) := by decide +kernel
theorem dX9_lacks_35 : decode cX9_lacks 35 = .ok (.iconst 1, 1) := by decide +kernel
theorem dX9_lacks_36 : decode cX9_lacks 36 = .ok (.isub, 1) := by decide +kernel
theorem dX9_lacks_37 : decode cX9_lacks 37 = .ok (.invokestatic 89, 3) := by decide +kernel
theorem dX9_lacks_40 : decode cX9_lacks 40 = .ok (.ifCond .eq 7, 3) := by decide +kernel
theorem dX9_lacks_43 : decode cX9_lacks 43 = .ok (.iconst 0, 1) := by decide +kernel
theorem dX9_lacks_44 : decode cX9_lacks 44 = .ok (.goto 4, 3) := by decide +kernel
theorem dX9_lacks_47 : decode cX9_lacks 47 = .ok (.iconst 2, 1) := by decide +kernel
theorem dX9_lacks_48 : decode cX9_lacks 48 = .ok (.ireturn, 1) := by decide +kernel
def fX9_lacks (a1 : Int32) (a2 : Int32) (a3 : Int32) (h : fd_H) : Option (Int32) :=
fd_g (fd_in a1 4) (
if (h.1 93 a1.toNatClampNeg) = 0 then (
some ((1 : Int32)))
else (
fd_g (fd_in a1 4) (
if (h.1 94 a1.toNatClampNeg) = a2 then (
fd_g (fd_in a1 4) (
(fX9_in a3 (0 : Int32) ((h.1 95 a1.toNatClampNeg) - (1 : Int32))).bind fun r7 =>
if r7 = true then (
some ((0 : Int32)))
else (
some ((2 : Int32)))))
else (
some ((3 : Int32))))))
set_option maxRecDepth 100000 in
set_option maxHeartbeats 4000000 in
theorem sX9_lacks {g : fd_G} {hm : fd_H} {a1 : Int32} {a2 : Int32} {a3 : Int32} {h : fd_H} {r : Int32} (hf : fX9_lacks a1 a2 a3 h = some r) : fd_S g mX9_lacks 1 [.ref (g.2.2.2 + 73), .int a1, .int a2, .int a3] fd_X0 (fd_mx hm h) (some (.int r)) fd_X0 (fd_mx hm h) 0 0 := by
  refine fd_S.of (by decide +kernel) (Nat.le_of_ble_eq_true rfl) ?_
  unfold fX9_lacks at hf
  refine fr_loc (lv' := [(0, .ref (g.2.2.2 + 73)), (1, .int a1), (2, .int a2), (3, .int a3)]) [0, 1, 2, 3] rfl ?_
  refine fr_aload_n (pc := 0) dX9_lacks_0 0 rfl rfl ?_
  refine fr_getR (pc := 1) dX9_lacks_1 fl_X9_68 (by decide) rfl rfl ?_
  refine fr_iload_n (pc := 4) dX9_lacks_4 1 rfl rfl ?_
  obtain ⟨g1, hf⟩ := fd_g_e hf
  refine vm_zald (pc := 5) dX9_lacks_5 (by decide) (by decide) rfl g1 ?_
  refine fr_if_ne (pc := 6) 13 dX9_lacks_6 (by decide) (fun c2 => ?_) (fun c2 => ?_)
  · have hf := fd_f c2 hf
    refine fr_aload_n (pc := 13) dX9_lacks_13 0 rfl rfl ?_
    refine fr_getR (pc := 14) dX9_lacks_14 fl_X9_71 (by decide) rfl rfl ?_
    refine fr_iload_n (pc := 17) dX9_lacks_17 1 rfl rfl ?_
    obtain ⟨g3, hf⟩ := fd_g_e hf
    refine vm_iald (pc := 18) dX9_lacks_18 (by decide) (by decide) rfl g3 ?_
    refine fr_iload_n (pc := 19) dX9_lacks_19 2 rfl rfl ?_
    refine fr_icmp_eq (pc := 20) 27 dX9_lacks_20 (by decide) (fun c4 => ?_) (fun c4 => ?_)
    · have hf := fd_t c4 hf
      refine fr_iload_n (pc := 27) dX9_lacks_27 3 rfl rfl ?_
      refine fr_iconst (pc := 28) (v := (0 : Int32)) dX9_lacks_28 (by decide) ?_
      refine fr_aload_n (pc := 29) dX9_lacks_29 0 rfl rfl ?_
      refine fr_getR (pc := 30) dX9_lacks_30 fl_X9_74 (by decide) rfl rfl ?_
      refine fr_iload_n (pc := 33) dX9_lacks_33 1 rfl rfl ?_
      obtain ⟨g5, hf⟩ := fd_g_e hf
      refine vm_iald (pc := 34) dX9_lacks_34 (by decide) (by decide) rfl g5 ?_
      refine fr_iconst (pc := 35) (v := (1 : Int32)) dX9_lacks_35 (by decide) ?_
      refine fr_isub (pc := 36) dX9_lacks_36 ?_
      obtain ⟨r7, hc6, hf⟩ := fd_bi hf
      refine fr_callSz (pc := 37) (av := [.int a3, .int (0 : Int32), .int ((h.1 95 a1.toNatClampNeg) - (1 : Int32))]) dX9_lacks_37 yy_X9_in kw_148 rfl rfl (Nat.le_of_ble_eq_true rfl) ⟨Nat.le_of_ble_eq_true rfl, Nat.le_of_ble_eq_true rfl, Nat.zero_le _, Nat.zero_le _⟩ (sX9_in hc6) ?_
      refine fr_bz (pc := 40) 47 dX9_lacks_40 (by decide) (fun c8 => ?_) (fun c8 => ?_)
      · have hf := fd_f c8 hf
        refine fr_iconst (pc := 47) (v := (2 : Int32)) dX9_lacks_47 (by decide) ?_
        exact fr_iretP (x := (2 : Int32)) (pc := 48) dX9_lacks_48 rfl hf
      · have hf := fd_t c8 hf
        refine fr_iconst (pc := 43) (v := (0 : Int32)) dX9_lacks_43 (by decide) ?_
        refine fr_goto (pc := 44) 48 dX9_lacks_44 (by decide) ?_
        exact fr_iretP (x := (0 : Int32)) (pc := 48) dX9_lacks_48 rfl hf
    · have hf := fd_f c4 hf
      refine fr_iconst (pc := 23) (v := (3 : Int32)) dX9_lacks_23 (by decide) ?_
      refine fr_goto (pc := 24) 48 dX9_lacks_24 (by decide) ?_
      exact fr_iretP (x := (3 : Int32)) (pc := 48) dX9_lacks_48 rfl hf
  · have hf := fd_t c2 hf
    refine fr_iconst (pc := 9) (v := (1 : Int32)) dX9_lacks_9 (by decide) ?_
    refine fr_goto (pc := 10) 48 dX9_lacks_10 (by decide) ?_
    exact fr_iretP (x := (1 : Int32)) (pc := 48) dX9_lacks_48 rfl hf
theorem dX0_parse_0 : decode cX0_parse 0 = .ok (.aload_n 0, 1) := by decide +kernel
theorem dX0_parse_1 : decode cX0_parse 1 = .ok (.iload_n 2, 1) := by decide +kernel
theorem dX0_parse_2 : decode cX0_parse 2 = .ok (.iconst 1, 1) := by decide +kernel
theorem dX0_parse_3 : decode cX0_parse 3 = .ok (.iadd, 1) := by decide +kernel
theorem dX0_parse_4 : decode cX0_parse 4 = .ok (.bipush 8, 2) := by decide +kernel
theorem dX0_parse_6 : decode cX0_parse 6 = .ok (.idiv, 1) := by decide +kernel
theorem dX0_parse_7 : decode cX0_parse 7 = .ok (.bipush 9, 2) := by decide +kernel
theorem dX0_parse_9 : decode cX0_parse 9 = .ok (.invokestatic 24, 3) := by decide +kernel
theorem dX0_parse_12 : decode cX0_parse 12 = .ok (.putfield 20, 3) := by decide +kernel
theorem dX0_parse_15 : decode cX0_parse 15 = .ok (.iconst 0, 1) := by decide +kernel
theorem dX0_parse_16 : decode cX0_parse 16 = .ok (.istore_n 3, 1) := by decide +kernel
theorem dX0_parse_17 : decode cX0_parse 17 = .ok (.iload_n 3, 1) := by decide +kernel
theorem dX0_parse_18 : decode cX0_parse 18 = .ok (.aload_n 0, 1) := by decide +kernel
theorem dX0_parse_19 : decode cX0_parse 19 = .ok (.getfield 20, 3) := by decide +kernel
theorem dX0_parse_22 : decode cX0_parse 22 = .ok (.if_icmp .ge 101, 3) := by decide +kernel
theorem dX0_parse_25 : decode cX0_parse 25 = .ok (.bipush 8, 2) := by decide +kernel
theorem dX0_parse_27 : decode cX0_parse 27 = .ok (.iload_n 3, 1) := by decide +kernel
theorem dX0_parse_28 : decode cX0_parse 28 = .ok (.imul, 1) := by decide +kernel
theorem dX0_parse_29 : decode cX0_parse 29 = .ok (.istore 4, 2) := by decide +kernel
theorem dX0_parse_31 : decode cX0_parse 31 = .ok (.aload_n 0, 1) := by decide +kernel
theorem dX0_parse_32 : decode cX0_parse 32 = .ok (.iload_n 3, 1) := by decide +kernel
theorem dX0_parse_33 : decode cX0_parse 33 = .ok (.iconst 0, 1) := by decide +kernel
theorem dX0_parse_34 : decode cX0_parse 34 = .ok (.aload_n 1, 1) := by decide +kernel
theorem dX0_parse_35 : decode cX0_parse 35 = .ok (.getfield 30, 3) := by decide +kernel
theorem dX0_parse_38 : decode cX0_parse 38 = .ok (.iload 4, 2) := by decide +kernel
theorem dX0_parse_40 : decode cX0_parse 40 = .ok (.invokevirtual 35, 3) := by decide +kernel
theorem dX0_parse_43 : decode cX0_parse 43 = .ok (.bipush 97, 2) := by decide +kernel
theorem dX0_parse_45 : decode cX0_parse 45 = .ok (.isub, 1) := by decide +kernel
theorem dX0_parse_46 : decode cX0_parse 46 = .ok (.invokevirtual 39, 3) := by decide +kernel
theorem dX0_parse_49 : decode cX0_parse 49 = .ok (.aload_n 0, 1) := by decide +kernel
theorem dX0_parse_50 : decode cX0_parse 50 = .ok (.iload_n 3, 1) := by decide +kernel
theorem dX0_parse_51 : decode cX0_parse 51 = .ok (.iconst 1, 1) := by decide +kernel
theorem dX0_parse_52 : decode cX0_parse 52 = .ok (.aload_n 1, 1) := by decide +kernel
theorem dX0_parse_53 : decode cX0_parse 53 = .ok (.getfield 30, 3) := by decide +kernel
theorem dX0_parse_56 : decode cX0_parse 56 = .ok (.iload 4, 2) := by decide +kernel
theorem dX0_parse_58 : decode cX0_parse 58 = .ok (.iconst 1, 1) := by decide +kernel
theorem dX0_parse_59 : decode cX0_parse 59 = .ok (.iadd, 1) := by decide +kernel
theorem dX0_parse_60 : decode cX0_parse 60 = .ok (.invokevirtual 35, 3) := by decide +kernel
theorem dX0_parse_63 : decode cX0_parse 63 = .ok (.bipush 97, 2) := by decide +kernel
theorem dX0_parse_65 : decode cX0_parse 65 = .ok (.isub, 1) := by decide +kernel
theorem dX0_parse_66 : decode cX0_parse 66 = .ok (.invokevirtual 39, 3) := by decide +kernel
theorem dX0_parse_69 : decode cX0_parse 69 = .ok (.aload_n 0, 1) := by decide +kernel
theorem dX0_parse_70 : decode cX0_parse 70 = .ok (.iload_n 3, 1) := by decide +kernel
theorem dX0_parse_71 : decode cX0_parse 71 = .ok (.iconst 2, 1) := by decide +kernel
theorem dX0_parse_72 : decode cX0_parse 72 = .ok (.aload_n 1, 1) := by decide +kernel
theorem dX0_parse_73 : decode cX0_parse 73 = .ok (.iload 4, 2) := by decide +kernel
theorem dX0_parse_75 : decode cX0_parse 75 = .ok (.iconst 2, 1) := by decide +kernel
theorem dX0_parse_76 : decode cX0_parse 76 = .ok (.iadd, 1) := by decide +kernel
theorem dX0_parse_77 : decode cX0_parse 77 = .ok (.invokestatic 43, 3) := by decide +kernel
theorem dX0_parse_80 : decode cX0_parse 80 = .ok (.invokevirtual 39, 3) := by decide +kernel
theorem dX0_parse_83 : decode cX0_parse 83 = .ok (.aload_n 0, 1) := by decide +kernel
theorem dX0_parse_84 : decode cX0_parse 84 = .ok (.iload_n 3, 1) := by decide +kernel
theorem dX0_parse_85 : decode cX0_parse 85 = .ok (.iconst 3, 1) := by decide +kernel
theorem dX0_parse_86 : decode cX0_parse 86 = .ok (.aload_n 1, 1) := by decide +kernel
theorem dX0_parse_87 : decode cX0_parse 87 = .ok (.getfield 30, 3) := by decide +kernel
theorem dX0_parse_90 : decode cX0_parse 90 = .ok (.iload 4, 2) := by decide +kernel
theorem dX0_parse_92 : decode cX0_parse 92 = .ok (.iconst 4, 1) := by decide +kernel
theorem dX0_parse_93 : decode cX0_parse 93 = .ok (.iadd, 1) := by decide +kernel
theorem dX0_parse_94 : decode cX0_parse 94 = .ok (.invokevirtual 35, 3) := by decide +kernel
theorem dX0_parse_97 : decode cX0_parse 97 = .ok (.bipush 48, 2) := by decide +kernel
theorem dX0_parse_99 : decode cX0_parse 99 = .ok (.isub, 1) := by decide +kernel
theorem dX0_parse_100 : decode cX0_parse 100 = .ok (.invokevirtual 39, 3) := by decide +kernel
theorem dX0_parse_103 : decode cX0_parse 103 = .ok (.aload_n 0, 1) := by decide +kernel
theorem dX0_parse_104 : decode cX0_parse 104 = .ok (.iload_n 3, 1) := by decide +kernel
theorem dX0_parse_105 : decode cX0_parse 105 = .ok (.iconst 4, 1) := by decide +kernel
theorem dX0_parse_106 : decode cX0_parse 106 = .ok (.aload_n 1, 1) := by decide +kernel
theorem dX0_parse_107 : decode cX0_parse 107 = .ok (.iload 4, 2) := by decide +kernel
theorem dX0_parse_109 : decode cX0_parse 109 = .ok (.iconst 5, 1) := by decide +kernel
theorem dX0_parse_110 : decode cX0_parse 110 = .ok (.iadd, 1) := by decide +kernel
theorem dX0_parse_111 : decode cX0_parse 111 = .ok (.invokestatic 43, 3) := by decide +kernel
theorem dX0_parse_114 : decode cX0_parse 114 = .ok (.invokevirtual 39, 3) := by decide +kernel
theorem dX0_parse_117 : decode cX0_parse 117 = .ok (.iinc 3 1, 3) := by decide +kernel
theorem dX0_parse_120 : decode cX0_parse 120 = .ok (.goto (-103), 3) := by decide +kernel
theorem dX0_parse_123 : decode cX0_parse 123 = .ok (.return_, 1) := by decide +kernel
def fX0_parse_L17 (k1 : Nat) (n1 : Nat) (a2 : Int32) : Nat → Int32 → fd_H → Option (fd_H)
  | 0 => fun _ _ => none
  | n + 1 => fun v3 h =>
if (h.1 48 1) ≤ v3 then (
some h)
else (
fd_lt (((8 : Int32) * v3)) fun x2 =>
(fX3_at (k1 + 1) n1 x2 h).bind fun r4 =>
(fX0_note v3 (0 : Int32) (r4 - (97 : Int32)) h).bind fun h6 =>
(fX3_at (k1 + 1) n1 (x2 + (1 : Int32)) h6).bind fun r8 =>
(fX0_note v3 (1 : Int32) (r8 - (97 : Int32)) h6).bind fun h10 =>
(fX0_twoFigures k1 n1 (x2 + (2 : Int32)) h10).bind fun r12 =>
(fX0_note v3 (2 : Int32) r12 h10).bind fun h14 =>
(fX3_at (k1 + 1) n1 (x2 + (4 : Int32)) h14).bind fun r16 =>
(fX0_note v3 (3 : Int32) (r16 - (48 : Int32)) h14).bind fun h18 =>
(fX0_twoFigures k1 n1 (x2 + (5 : Int32)) h18).bind fun r20 =>
(fX0_note v3 (4 : Int32) r20 h18).bind fun h22 =>
fX0_parse_L17 k1 n1 a2 n (v3 + (1 : Int32)) h22)
set_option maxRecDepth 100000 in
set_option maxHeartbeats 4000000 in
theorem sX0_parse_L17 {g : fd_G} {hm : fd_H} {k1 : Nat} {n1 : Nat} {a2 : Int32} {r : fd_H} (p1 : fd_isText k1 n1) : ∀ (n : Nat) (v3 : Int32) (h : fd_H), fX0_parse_L17 k1 n1 a2 n v3 h = some r → fd_A g mX0_parse fd_E (fd_rm 2 0 0) (fd_Q g none fd_X0 (fd_mx r hm) 0 0) 17 [(0, .ref (g.2.2.2 + 48)), (1, .ref (g.2.2.2 + k1)), (3, .int v3)] [] fd_X0 (fd_mx h hm) 0 0 := by
  intro n
  induction n with
  | zero =>
    intro _ _ hf
    cases hf
  | succ n ih =>
    intro v3 h hf
    rw [fX0_parse_L17] at hf
    refine fr_iload_n (pc := 17) dX0_parse_17 2 rfl rfl ?_
    refine fr_aload_n (pc := 18) dX0_parse_18 0 rfl rfl ?_
    refine vx_getI (pc := 19) dX0_parse_19 fl_X0_20 (by decide) (by decide) rfl rfl ?_
    refine fr_icmp_ge (pc := 22) 123 dX0_parse_22 (by decide) (fun c1 => ?_) (fun c1 => ?_)
    · have hf := fd_t c1 hf
      exact vx_vretW (pc := 123) dX0_parse_123 rfl hf
    · have hf := fd_f c1 hf
      refine fr_bipush (pc := 25) (v := (8 : Int32)) dX0_parse_25 (by decide) ?_
      refine fr_iload_n (pc := 27) dX0_parse_27 2 rfl rfl ?_
      refine fr_imul (pc := 28) dX0_parse_28 ?_
      obtain ⟨x2, ex2, hf⟩ := fd_lt_e hf
      refine fr_nmi ex2 ?_
      refine fr_istore (pc := 29) (lv' := [(4, .int x2), (0, .ref (g.2.2.2 + 48)), (1, .ref (g.2.2.2 + k1)), (3, .int v3)]) dX0_parse_29 (by decide) rfl ?_
      refine fr_aload_n (pc := 31) dX0_parse_31 1 rfl rfl ?_
      refine fr_iload_n (pc := 32) dX0_parse_32 3 rfl rfl ?_
      refine fr_iconst (pc := 33) (v := (0 : Int32)) dX0_parse_33 (by decide) ?_
      refine fr_aload_n (pc := 34) dX0_parse_34 2 rfl rfl ?_
      refine fr_getR (pc := 35) dX0_parse_35 fl_X0_30 p1.b p1.s rfl ?_
      refine fr_iload (pc := 38) dX0_parse_38 0 rfl ?_
      obtain ⟨r4, hc3, hf⟩ := fd_bi hf
      refine fr_callVi (pc := 40) (av := [.int x2]) dX0_parse_40 yy_X3_at kw_52 p1.row.b p1.row.s rfl rfl rfl (Nat.le_of_ble_eq_true rfl) ⟨Nat.le_of_ble_eq_true rfl, Nat.le_of_ble_eq_true rfl, Nat.zero_le _, Nat.zero_le _⟩ (sX3_at p1.row hc3) ?_
      refine fr_bipush (pc := 43) (v := (97 : Int32)) dX0_parse_43 (by decide) ?_
      refine fr_isub (pc := 45) dX0_parse_45 ?_
      obtain ⟨h6, hc5, hf⟩ := fd_bi hf
      refine fr_callVv (pc := 46) (av := [.int v3, .int (0 : Int32), .int (r4 - (97 : Int32))]) dX0_parse_46 yy_X0_note kw_175 (by decide) rfl rfl rfl rfl (Nat.le_of_ble_eq_true rfl) ⟨Nat.le_of_ble_eq_true rfl, Nat.le_of_ble_eq_true rfl, Nat.zero_le _, Nat.zero_le _⟩ (sX0_note hc5) ?_
      refine fr_aload_n (pc := 49) dX0_parse_49 1 rfl rfl ?_
      refine fr_iload_n (pc := 50) dX0_parse_50 3 rfl rfl ?_
      refine fr_iconst (pc := 51) (v := (1 : Int32)) dX0_parse_51 (by decide) ?_
      refine fr_aload_n (pc := 52) dX0_parse_52 2 rfl rfl ?_
      refine fr_getR (pc := 53) dX0_parse_53 fl_X0_30 p1.b p1.s rfl ?_
      refine fr_iload (pc := 56) dX0_parse_56 0 rfl ?_
      refine fr_iconst (pc := 58) (v := (1 : Int32)) dX0_parse_58 (by decide) ?_
      refine fr_iadd (pc := 59) dX0_parse_59 ?_
      obtain ⟨r8, hc7, hf⟩ := fd_bi hf
      refine fr_callVi (pc := 60) (av := [.int (x2 + (1 : Int32))]) dX0_parse_60 yy_X3_at kw_52 p1.row.b p1.row.s rfl rfl rfl (Nat.le_of_ble_eq_true rfl) ⟨Nat.le_of_ble_eq_true rfl, Nat.le_of_ble_eq_true rfl, Nat.zero_le _, Nat.zero_le _⟩ (sX3_at p1.row hc7) ?_
      refine fr_bipush (pc := 63) (v := (97 : Int32)) dX0_parse_63 (by decide) ?_
      refine fr_isub (pc := 65) dX0_parse_65 ?_
      obtain ⟨h10, hc9, hf⟩ := fd_bi hf
      refine fr_callVv (pc := 66) (av := [.int v3, .int (1 : Int32), .int (r8 - (97 : Int32))]) dX0_parse_66 yy_X0_note kw_175 (by decide) rfl rfl rfl rfl (Nat.le_of_ble_eq_true rfl) ⟨Nat.le_of_ble_eq_true rfl, Nat.le_of_ble_eq_true rfl, Nat.zero_le _, Nat.zero_le _⟩ (sX0_note hc9) ?_
      refine fr_aload_n (pc := 69) dX0_parse_69 1 rfl rfl ?_
      refine fr_iload_n (pc := 70) dX0_parse_70 3 rfl rfl ?_
      refine fr_iconst (pc := 71) (v := (2 : Int32)) dX0_parse_71 (by decide) ?_
      refine fr_aload_n (pc := 72) dX0_parse_72 2 rfl rfl ?_
      refine fr_iload (pc := 73) dX0_parse_73 0 rfl ?_
      refine fr_iconst (pc := 75) (v := (2 : Int32)) dX0_parse_75 (by decide) ?_
      refine fr_iadd (pc := 76) dX0_parse_76 ?_
      obtain ⟨r12, hc11, hf⟩ := fd_bi hf
      refine fr_callSi (pc := 77) (av := [.ref (g.2.2.2 + k1), .int (x2 + (2 : Int32))]) dX0_parse_77 yy_X0_twoFigures kw_178 rfl rfl (Nat.le_of_ble_eq_true rfl) ⟨Nat.le_of_ble_eq_true rfl, Nat.le_of_ble_eq_true rfl, Nat.zero_le _, Nat.zero_le _⟩ (sX0_twoFigures p1 hc11) ?_
      obtain ⟨h14, hc13, hf⟩ := fd_bi hf
      refine fr_callVv (pc := 80) (av := [.int v3, .int (2 : Int32), .int r12]) dX0_parse_80 yy_X0_note kw_175 (by decide) rfl rfl rfl rfl (Nat.le_of_ble_eq_true rfl) ⟨Nat.le_of_ble_eq_true rfl, Nat.le_of_ble_eq_true rfl, Nat.zero_le _, Nat.zero_le _⟩ (sX0_note hc13) ?_
      refine fr_aload_n (pc := 83) dX0_parse_83 1 rfl rfl ?_
      refine fr_iload_n (pc := 84) dX0_parse_84 3 rfl rfl ?_
      refine fr_iconst (pc := 85) (v := (3 : Int32)) dX0_parse_85 (by decide) ?_
      refine fr_aload_n (pc := 86) dX0_parse_86 2 rfl rfl ?_
      refine fr_getR (pc := 87) dX0_parse_87 fl_X0_30 p1.b p1.s rfl ?_
      refine fr_iload (pc := 90) dX0_parse_90 0 rfl ?_
      refine fr_iconst (pc := 92) (v := (4 : Int32)) dX0_parse_92 (by decide) ?_
      refine fr_iadd (pc := 93) dX0_parse_93 ?_
      obtain ⟨r16, hc15, hf⟩ := fd_bi hf
      refine fr_callVi (pc := 94) (av := [.int (x2 + (4 : Int32))]) dX0_parse_94 yy_X3_at kw_52 p1.row.b p1.row.s rfl rfl rfl (Nat.le_of_ble_eq_true rfl) ⟨Nat.le_of_ble_eq_true rfl, Nat.le_of_ble_eq_true rfl, Nat.zero_le _, Nat.zero_le _⟩ (sX3_at p1.row hc15) ?_
      refine fr_bipush (pc := 97) (v := (48 : Int32)) dX0_parse_97 (by decide) ?_
      refine fr_isub (pc := 99) dX0_parse_99 ?_
      obtain ⟨h18, hc17, hf⟩ := fd_bi hf
      refine fr_callVv (pc := 100) (av := [.int v3, .int (3 : Int32), .int (r16 - (48 : Int32))]) dX0_parse_100 yy_X0_note kw_175 (by decide) rfl rfl rfl rfl (Nat.le_of_ble_eq_true rfl) ⟨Nat.le_of_ble_eq_true rfl, Nat.le_of_ble_eq_true rfl, Nat.zero_le _, Nat.zero_le _⟩ (sX0_note hc17) ?_
      refine fr_aload_n (pc := 103) dX0_parse_103 1 rfl rfl ?_
      refine fr_iload_n (pc := 104) dX0_parse_104 3 rfl rfl ?_
      refine fr_iconst (pc := 105) (v := (4 : Int32)) dX0_parse_105 (by decide) ?_
      refine fr_aload_n (pc := 106) dX0_parse_106 2 rfl rfl ?_
      refine fr_iload (pc := 107) dX0_parse_107 0 rfl ?_
      refine fr_iconst (pc := 109) (v := (5 : Int32)) dX0_parse_109 (by decide) ?_
      refine fr_iadd (pc := 110) dX0_parse_110 ?_
      obtain ⟨r20, hc19, hf⟩ := fd_bi hf
      refine fr_callSi (pc := 111) (av := [.ref (g.2.2.2 + k1), .int (x2 + (5 : Int32))]) dX0_parse_111 yy_X0_twoFigures kw_178 rfl rfl (Nat.le_of_ble_eq_true rfl) ⟨Nat.le_of_ble_eq_true rfl, Nat.le_of_ble_eq_true rfl, Nat.zero_le _, Nat.zero_le _⟩ (sX0_twoFigures p1 hc19) ?_
      obtain ⟨h22, hc21, hf⟩ := fd_bi hf
      refine fr_callVv (pc := 114) (av := [.int v3, .int (4 : Int32), .int r20]) dX0_parse_114 yy_X0_note kw_175 (by decide) rfl rfl rfl rfl (Nat.le_of_ble_eq_true rfl) ⟨Nat.le_of_ble_eq_true rfl, Nat.le_of_ble_eq_true rfl, Nat.zero_le _, Nat.zero_le _⟩ (sX0_note hc21) ?_
      refine fr_iinc (pc := 117) (v := (v3 + (1 : Int32))) (lv' := [(3, .int (v3 + (1 : Int32))), (4, .int x2), (0, .ref (g.2.2.2 + 48)), (1, .ref (g.2.2.2 + k1))]) dX0_parse_117 3 rfl rfl (by decide) rfl ?_
      refine fr_goto (pc := 120) 17 dX0_parse_120 (by decide) ?_
      refine fr_loc (lv' := [(0, .ref (g.2.2.2 + 48)), (1, .ref (g.2.2.2 + k1)), (3, .int (v3 + (1 : Int32)))]) [2, 3, 0] rfl ?_
      exact ih _ _ hf
def fX0_parse (k1 : Nat) (n1 : Nat) (a2 : Int32) (h : fd_H) : Option (fd_H) :=
fd_lt (fd_ui h 48 1 (fd_min ((a2 + (1 : Int32)) / (8 : Int32)) (9 : Int32))) fun h1 =>
fX0_parse_L17 k1 n1 a2 fd_fu (0 : Int32) h1
set_option maxRecDepth 100000 in
set_option maxHeartbeats 4000000 in
theorem sX0_parse {g : fd_G} {hm : fd_H} {k1 : Nat} {n1 : Nat} {a2 : Int32} {r : fd_H} (p1 : fd_isText k1 n1) {h : fd_H} (hf : fX0_parse k1 n1 a2 h = some r) : fd_S g mX0_parse 2 [.ref (g.2.2.2 + 48), .ref (g.2.2.2 + k1), .int a2] fd_X0 (fd_mx h hm) none fd_X0 (fd_mx r hm) 0 0 := by
  refine fd_S.of (by decide +kernel) (Nat.le_of_ble_eq_true rfl) ?_
  unfold fX0_parse at hf
  refine fr_loc (lv' := [(0, .ref (g.2.2.2 + 48)), (1, .ref (g.2.2.2 + k1)), (2, .int a2)]) [0, 1, 2] rfl ?_
  refine fr_aload_n (pc := 0) dX0_parse_0 0 rfl rfl ?_
  refine fr_iload_n (pc := 1) dX0_parse_1 2 rfl rfl ?_
  refine fr_iconst (pc := 2) (v := (1 : Int32)) dX0_parse_2 (by decide) ?_
  refine fr_iadd (pc := 3) dX0_parse_3 ?_
  refine fr_bipush (pc := 4) (v := (8 : Int32)) dX0_parse_4 (by decide) ?_
  refine fr_idiv (pc := 6) dX0_parse_6 (by decide) ?_
  refine fr_bipush (pc := 7) (v := (9 : Int32)) dX0_parse_7 (by decide) ?_
  refine fr_min (pc := 9) dX0_parse_9 kw_169 (Nat.le_of_ble_eq_true rfl) (Nat.le_of_ble_eq_true rfl) (Nat.zero_le _) (Nat.zero_le _) ?_
  obtain ⟨h1, eh1, hf⟩ := fd_lt_e hf
  refine vx_putI (pc := 12) dX0_parse_12 fl_X0_20 ft_X0_1 (by decide) (by decide) rfl rfl eh1 ?_
  refine fr_iconst (pc := 15) (v := (0 : Int32)) dX0_parse_15 (by decide) ?_
  refine fr_istore_n (pc := 16) (lv' := [(3, .int (0 : Int32)), (0, .ref (g.2.2.2 + 48)), (1, .ref (g.2.2.2 + k1)), (2, .int a2)]) dX0_parse_16 rfl (by decide) rfl ?_
  refine fr_loc (lv' := [(0, .ref (g.2.2.2 + 48)), (1, .ref (g.2.2.2 + k1)), (3, .int (0 : Int32))]) [1, 2, 0] rfl ?_
  exact sX0_parse_L17 p1 _  _ _ hf
theorem dX5_firstOf_0 : decode cX5_firstOf 0 = .ok (.aload_n 0, 1) := by decide +kernel
theorem dX5_firstOf_1 : decode cX5_firstOf 1 = .ok (.iload_n 1, 1) := by decide +kernel
theorem dX5_firstOf_2 : decode cX5_firstOf 2 = .ok (.invokevirtual 15, 3) := by decide +kernel
theorem dX5_firstOf_5 : decode cX5_firstOf 5 = .ok (.iconst 0, 1) := by decide +kernel
theorem dX5_firstOf_6 : decode cX5_firstOf 6 = .ok (.invokestatic 22, 3) := by decide +kernel
theorem dX5_firstOf_9 : decode cX5_firstOf 9 = .ok (.ireturn, 1) := by decide +kernel
def fX5_firstOf (k : Nat) (a1 : Int32) (h : fd_H) : Option (Int32) :=
(fX5_at k a1 h).bind fun r2 =>
(fX8_countOrItem r2 (0 : Int32)).bind fun r4 =>
some (r4)
set_option maxRecDepth 100000 in
set_option maxHeartbeats 4000000 in
theorem sX5_firstOf {g : fd_G} {hm : fd_H} {k : Nat} {a1 : Int32} {h : fd_H} {r : Int32} (p0 : fd_isSpans k) (hf : fX5_firstOf k a1 h = some r) : fd_S g mX5_firstOf 2 [.ref (g.2.2.2 + k), .int a1] fd_X0 (fd_mx h hm) (some (.int r)) fd_X0 (fd_mx h hm) 0 0 := by
  refine fd_S.of (by decide +kernel) (Nat.le_of_ble_eq_true rfl) ?_
  unfold fX5_firstOf at hf
  refine fr_loc (lv' := [(0, .ref (g.2.2.2 + k)), (1, .int a1)]) [0, 1] rfl ?_
  refine fr_aload_n (pc := 0) dX5_firstOf_0 0 rfl rfl ?_
  refine fr_iload_n (pc := 1) dX5_firstOf_1 1 rfl rfl ?_
  obtain ⟨r2, hc1, hf⟩ := fd_bi hf
  refine fr_callVl (pc := 2) (av := [.int a1]) dX5_firstOf_2 yy_X5_at kw_88 p0.b p0.s rfl rfl rfl (Nat.le_of_ble_eq_true rfl) ⟨Nat.le_of_ble_eq_true rfl, Nat.le_of_ble_eq_true rfl, Nat.zero_le _, Nat.zero_le _⟩ (sX5_at p0 hc1) ?_
  refine fr_iconst (pc := 5) (v := (0 : Int32)) dX5_firstOf_5 (by decide) ?_
  obtain ⟨r4, hc3, hf⟩ := fd_bi hf
  refine fr_callSNi (pc := 6) (av := [.long r2, .int (0 : Int32)]) dX5_firstOf_6 yy_X8_countOrItem (List.mem_of_getElem? (i := 10) rfl) rfl rfl (Nat.le_of_ble_eq_true rfl) ⟨Nat.le_of_ble_eq_true rfl, Nat.le_of_ble_eq_true rfl, Nat.zero_le _, Nat.zero_le _⟩ (sX8_countOrItem hc3) ?_
  exact fr_iretP (x := r4) (pc := 9) dX5_firstOf_9 rfl hf
theorem dX7_frostNights_0 : decode cX7_frostNights 0 = .ok (.lconst 0, 1) := by decide +kernel
theorem dX7_frostNights_1 : decode cX7_frostNights 1 = .ok (.lstore 6, 2) := by decide +kernel
theorem dX7_frostNights_3 : decode cX7_frostNights 3 = .ok (.iconst 0, 1) := by decide +kernel
theorem dX7_frostNights_4 : decode cX7_frostNights 4 = .ok (.istore 8, 2) := by decide +kernel
theorem dX7_frostNights_6 : decode cX7_frostNights 6 = .ok (.iload 8, 2) := by decide +kernel
theorem dX7_frostNights_8 : decode cX7_frostNights 8 = .ok (.aload_n 0, 1) := by decide +kernel
theorem dX7_frostNights_9 : decode cX7_frostNights 9 = .ok (.getfield 40, 3) := by decide +kernel
theorem dX7_frostNights_12 : decode cX7_frostNights 12 = .ok (.if_icmp .ge 37, 3) := by decide +kernel
theorem dX7_frostNights_15 : decode cX7_frostNights 15 = .ok (.aload_n 0, 1) := by decide +kernel
theorem dX7_frostNights_16 : decode cX7_frostNights 16 = .ok (.iload 8, 2) := by decide +kernel
theorem dX7_frostNights_18 : decode cX7_frostNights 18 = .ok (.iload_n 1, 1) := by decide +kernel
theorem dX7_frostNights_19 : decode cX7_frostNights 19 = .ok (.aload_n 0, 1) := by decide +kernel
theorem dX7_frostNights_20 : decode cX7_frostNights 20 = .ok (.getfield 36, 3) := by decide +kernel
theorem dX7_frostNights_23 : decode cX7_frostNights 23 = .ok (.iload 8, 2) := by decide +kernel
theorem dX7_frostNights_25 : decode cX7_frostNights 25 = .ok (.invokevirtual 75, 3) := by decide +kernel
theorem dX7_frostNights_28 : decode cX7_frostNights 28 = .ok (.invokevirtual 109, 3) := by decide +kernel
theorem dX7_frostNights_31 : decode cX7_frostNights 31 = .ok (.ifCond .eq 12, 3) := by decide +kernel
theorem dX7_frostNights_34 : decode cX7_frostNights 34 = .ok (.lload 6, 2) := by decide +kernel
theorem dX7_frostNights_36 : decode cX7_frostNights 36 = .ok (.lconst 1, 1) := by decide +kernel
theorem dX7_frostNights_37 : decode cX7_frostNights 37 = .ok (.iload 8, 2) := by decide +kernel
theorem dX7_frostNights_39 : decode cX7_frostNights 39 = .ok (.lshl, 1) := by decide +kernel
theorem dX7_frostNights_40 : decode cX7_frostNights 40 = .ok (.lor, 1) := by decide +kernel
theorem dX7_frostNights_41 : decode cX7_frostNights 41 = .ok (.lstore 6, 2) := by decide +kernel
theorem dX7_frostNights_43 : decode cX7_frostNights 43 = .ok (.iinc 8 1, 3) := by decide +kernel
theorem dX7_frostNights_46 : decode cX7_frostNights 46 = .ok (.goto (-40), 3) := by decide +kernel
theorem dX7_frostNights_49 : decode cX7_frostNights 49 = .ok (.lload 6, 2) := by decide +kernel
theorem dX7_frostNights_51 : decode cX7_frostNights 51 = .ok (.lload_n 2, 1) := by decide +kernel
theorem dX7_frostNights_52 : decode cX7_frostNights 52 = .ok (.aload_n 0, 1) := by decide +kernel
theorem dX7_frostNights_53 : decode cX7_frostNights 53 = .ok (.getfield 54, 3) := by decide +kernel
theorem dX7_frostNights_56 : decode cX7_frostNights 56 = .ok (.iload_n 1, 1) := by decide +kernel
theorem dX7_frostNights_57 : decode cX7_frostNights 57 = .ok (.invokevirtual 97, 3) := by decide +kernel
theorem dX7_frostNights_60 : decode cX7_frostNights 60 = .ok (.lor, 1) := by decide +kernel
theorem dX7_frostNights_61 : decode cX7_frostNights 61 = .ok (.ldc2_w 113, 3) := by decide +kernel
theorem dX7_frostNights_64 : decode cX7_frostNights 64 = .ok (.lxor, 1) := by decide +kernel
theorem dX7_frostNights_65 : decode cX7_frostNights 65 = .ok (.land, 1) := by decide +kernel
theorem dX7_frostNights_66 : decode cX7_frostNights 66 = .ok (.lload 4, 2) := by decide +kernel
theorem dX7_frostNights_68 : decode cX7_frostNights 68 = .ok (.lor, 1) := by decide +kernel
theorem dX7_frostNights_69 : decode cX7_frostNights 69 = .ok (.lreturn, 1) := by decide +kernel
def fX7_frostNights_L6 (a1 : Int32) (a2 : Int64) (a4 : Int64) (h : fd_H) : Nat → Int64 → Int32 → Option (Int64)
  | 0 => fun _ _ => none
  | n + 1 => fun v6 v8 =>
if (h.1 11 5) ≤ v8 then (
(fX5_at 42 a1 h).bind fun r3 =>
some (((v6 &&& ((a2 ||| r3) ^^^ (-1 : Int64))) ||| a4)))
else (
(fX3_at 40 40 v8 h).bind fun r5 =>
(fX7_isCold v8 a1 r5 h).bind fun r7 =>
if r7 = true then (
fd_lt ((v6 ||| (fd_lshl (1 : Int64) v8))) fun x9 =>
fX7_frostNights_L6 a1 a2 a4 h n x9 (v8 + (1 : Int32)))
else (
fX7_frostNights_L6 a1 a2 a4 h n v6 (v8 + (1 : Int32))))
set_option maxRecDepth 100000 in
set_option maxHeartbeats 4000000 in
theorem sX7_frostNights_L6 {g : fd_G} {hm : fd_H} {a1 : Int32} {a2 : Int64} {a4 : Int64} {h : fd_H} {r : Int64} : ∀ (n : Nat) (v6 : Int64) (v8 : Int32), fX7_frostNights_L6 a1 a2 a4 h n v6 v8 = some r → fd_A g mX7_frostNights fd_E (fd_rm 2 0 0) (fd_Q g (some (.long r)) fd_X0 (fd_mx h hm) 0 0) 6 [(0, .ref (g.2.2.2 + 11)), (1, .int a1), (2, .long a2), (4, .long a4), (6, .long v6), (8, .int v8)] [] fd_X0 (fd_mx h hm) 0 0 := by
  intro n
  induction n with
  | zero =>
    intro _ _ hf
    cases hf
  | succ n ih =>
    intro v6 v8 hf
    rw [fX7_frostNights_L6] at hf
    refine fr_iload (pc := 6) dX7_frostNights_6 5 rfl ?_
    refine fr_aload_n (pc := 8) dX7_frostNights_8 0 rfl rfl ?_
    refine vx_getI (pc := 9) dX7_frostNights_9 fl_X7_40 (by decide) (by decide) rfl rfl ?_
    refine fr_icmp_ge (pc := 12) 49 dX7_frostNights_12 (by decide) (fun c1 => ?_) (fun c1 => ?_)
    · have hf := fd_t c1 hf
      refine fr_lload (pc := 49) dX7_frostNights_49 4 rfl ?_
      refine fr_lload_n (pc := 51) dX7_frostNights_51 2 rfl rfl ?_
      refine fr_aload_n (pc := 52) dX7_frostNights_52 0 rfl rfl ?_
      refine fr_getR (pc := 53) dX7_frostNights_53 fl_X7_54 (by decide) rfl rfl ?_
      refine fr_iload_n (pc := 56) dX7_frostNights_56 1 rfl rfl ?_
      obtain ⟨r3, hc2, hf⟩ := fd_bi hf
      refine fr_callVl (pc := 57) (av := [.int a1]) dX7_frostNights_57 yy_X5_at kw_182 (by decide) rfl rfl rfl rfl (Nat.le_of_ble_eq_true rfl) ⟨Nat.le_of_ble_eq_true rfl, Nat.le_of_ble_eq_true rfl, Nat.zero_le _, Nat.zero_le _⟩ (sX5_at is_42 hc2) ?_
      refine fr_lor (pc := 60) dX7_frostNights_60 ?_
      refine fr_ldc2 (pc := 61) (v := (-1 : Int64)) dX7_frostNights_61 kw_183 ?_
      refine fr_lxor (pc := 64) dX7_frostNights_64 ?_
      refine fr_land (pc := 65) dX7_frostNights_65 ?_
      refine fr_lload (pc := 66) dX7_frostNights_66 3 rfl ?_
      refine fr_lor (pc := 68) dX7_frostNights_68 ?_
      exact fr_lretP (x := ((v6 &&& ((a2 ||| r3) ^^^ (-1 : Int64))) ||| a4)) (pc := 69) dX7_frostNights_69 rfl hf
    · have hf := fd_f c1 hf
      refine fr_aload_n (pc := 15) dX7_frostNights_15 0 rfl rfl ?_
      refine fr_iload (pc := 16) dX7_frostNights_16 5 rfl ?_
      refine fr_iload_n (pc := 18) dX7_frostNights_18 1 rfl rfl ?_
      refine fr_aload_n (pc := 19) dX7_frostNights_19 0 rfl rfl ?_
      refine fr_getR (pc := 20) dX7_frostNights_20 fl_X7_36 (by decide) rfl rfl ?_
      refine fr_iload (pc := 23) dX7_frostNights_23 5 rfl ?_
      obtain ⟨r5, hc4, hf⟩ := fd_bi hf
      refine fr_callVi (pc := 25) (av := [.int v8]) dX7_frostNights_25 yy_X3_at kw_99 (by decide) rfl rfl rfl rfl (Nat.le_of_ble_eq_true rfl) ⟨Nat.le_of_ble_eq_true rfl, Nat.le_of_ble_eq_true rfl, Nat.zero_le _, Nat.zero_le _⟩ (sX3_at is_40 hc4) ?_
      obtain ⟨r7, hc6, hf⟩ := fd_bi hf
      refine fr_callVz (pc := 28) (av := [.int v8, .int a1, .int r5]) dX7_frostNights_28 yy_X7_isCold kw_188 (by decide) rfl rfl rfl rfl (Nat.le_of_ble_eq_true rfl) ⟨Nat.le_of_ble_eq_true rfl, Nat.le_of_ble_eq_true rfl, Nat.zero_le _, Nat.zero_le _⟩ (sX7_isCold hc6) ?_
      refine fr_bz (pc := 31) 43 dX7_frostNights_31 (by decide) (fun c8 => ?_) (fun c8 => ?_)
      · have hf := fd_f c8 hf
        refine fr_iinc (pc := 43) (v := (v8 + (1 : Int32))) (lv' := [(8, .int (v8 + (1 : Int32))), (0, .ref (g.2.2.2 + 11)), (1, .int a1), (2, .long a2), (4, .long a4), (6, .long v6)]) dX7_frostNights_43 5 rfl rfl (by decide) rfl ?_
        refine fr_goto (pc := 46) 6 dX7_frostNights_46 (by decide) ?_
        refine fr_loc (lv' := [(0, .ref (g.2.2.2 + 11)), (1, .int a1), (2, .long a2), (4, .long a4), (6, .long v6), (8, .int (v8 + (1 : Int32)))]) [1, 2, 3, 4, 5, 0] rfl ?_
        exact ih _ _ hf
      · have hf := fd_t c8 hf
        refine fr_lload (pc := 34) dX7_frostNights_34 4 rfl ?_
        refine fr_lconst (pc := 36) (v := (1 : Int64)) dX7_frostNights_36 (by decide) ?_
        refine fr_iload (pc := 37) dX7_frostNights_37 5 rfl ?_
        refine fr_lshl (pc := 39) dX7_frostNights_39 ?_
        refine fr_lor (pc := 40) dX7_frostNights_40 ?_
        obtain ⟨x9, ex9, hf⟩ := fd_lt_e hf
        refine fr_nml ex9 ?_
        refine fr_lstore (pc := 41) (lv' := [(6, .long x9), (0, .ref (g.2.2.2 + 11)), (1, .int a1), (2, .long a2), (4, .long a4), (8, .int v8)]) dX7_frostNights_41 (by decide) rfl ?_
        refine fr_iinc (pc := 43) (v := (v8 + (1 : Int32))) (lv' := [(8, .int (v8 + (1 : Int32))), (6, .long x9), (0, .ref (g.2.2.2 + 11)), (1, .int a1), (2, .long a2), (4, .long a4)]) dX7_frostNights_43 5 rfl rfl (by decide) rfl ?_
        refine fr_goto (pc := 46) 6 dX7_frostNights_46 (by decide) ?_
        refine fr_loc (lv' := [(0, .ref (g.2.2.2 + 11)), (1, .int a1), (2, .long a2), (4, .long a4), (6, .long x9), (8, .int (v8 + (1 : Int32)))]) [2, 3, 4, 5, 1, 0] rfl ?_
        exact ih _ _ hf
def fX7_frostNights (a1 : Int32) (a2 : Int64) (a4 : Int64) (h : fd_H) : Option (Int64) :=
fX7_frostNights_L6 a1 a2 a4 h fd_fu (0 : Int64) (0 : Int32)
set_option maxRecDepth 100000 in
set_option maxHeartbeats 4000000 in
theorem sX7_frostNights {g : fd_G} {hm : fd_H} {a1 : Int32} {a2 : Int64} {a4 : Int64} {h : fd_H} {r : Int64} (hf : fX7_frostNights a1 a2 a4 h = some r) : fd_S g mX7_frostNights 2 [.ref (g.2.2.2 + 11), .int a1, .long a2, .long a4] fd_X0 (fd_mx h hm) (some (.long r)) fd_X0 (fd_mx h hm) 0 0 := by
  refine fd_S.of (by decide +kernel) (Nat.le_of_ble_eq_true rfl) ?_
  unfold fX7_frostNights at hf
  refine fr_loc (lv' := [(0, .ref (g.2.2.2 + 11)), (1, .int a1), (2, .long a2), (4, .long a4)]) [0, 1, 2, 3] rfl ?_
  refine fr_lconst (pc := 0) (v := (0 : Int64)) dX7_frostNights_0 (by decide) ?_
  refine fr_lstore (pc := 1) (lv' := [(6, .long (0 : Int64)), (0, .ref (g.2.2.2 + 11)), (1, .int a1), (2, .long a2), (4, .long a4)]) dX7_frostNights_1 (by decide) rfl ?_
  refine fr_iconst (pc := 3) (v := (0 : Int32)) dX7_frostNights_3 (by decide) ?_
  refine fr_istore (pc := 4) (lv' := [(8, .int (0 : Int32)), (6, .long (0 : Int64)), (0, .ref (g.2.2.2 + 11)), (1, .int a1), (2, .long a2), (4, .long a4)]) dX7_frostNights_4 (by decide) rfl ?_
  refine fr_loc (lv' := [(0, .ref (g.2.2.2 + 11)), (1, .int a1), (2, .long a2), (4, .long a4), (6, .long (0 : Int64)), (8, .int (0 : Int32))]) [2, 3, 4, 5, 1, 0] rfl ?_
  exact sX7_frostNights_L6 _  _ _ hf
theorem dX7_frostsIfWarm_0 : decode cX7_frostsIfWarm 0 = .ok (.lconst 1, 1) := by decide +kernel
theorem dX7_frostsIfWarm_1 : decode cX7_frostsIfWarm 1 = .ok (.iload_n 2, 1) := by decide +kernel
theorem dX7_frostsIfWarm_2 : decode cX7_frostsIfWarm 2 = .ok (.lshl, 1) := by decide +kernel
theorem dX7_frostsIfWarm_3 : decode cX7_frostsIfWarm 3 = .ok (.lstore 4, 2) := by decide +kernel
theorem dX7_frostsIfWarm_5 : decode cX7_frostsIfWarm 5 = .ok (.aload_n 0, 1) := by decide +kernel
theorem dX7_frostsIfWarm_6 : decode cX7_frostsIfWarm 6 = .ok (.iload_n 2, 1) := by decide +kernel
theorem dX7_frostsIfWarm_7 : decode cX7_frostsIfWarm 7 = .ok (.iload_n 1, 1) := by decide +kernel
theorem dX7_frostsIfWarm_8 : decode cX7_frostsIfWarm 8 = .ok (.iload_n 3, 1) := by decide +kernel
theorem dX7_frostsIfWarm_9 : decode cX7_frostsIfWarm 9 = .ok (.invokevirtual 109, 3) := by decide +kernel
theorem dX7_frostsIfWarm_12 : decode cX7_frostsIfWarm 12 = .ok (.ifCond .eq 26, 3) := by decide +kernel
theorem dX7_frostsIfWarm_15 : decode cX7_frostsIfWarm 15 = .ok (.lload 4, 2) := by decide +kernel
theorem dX7_frostsIfWarm_17 : decode cX7_frostsIfWarm 17 = .ok (.aload_n 0, 1) := by decide +kernel
theorem dX7_frostsIfWarm_18 : decode cX7_frostsIfWarm 18 = .ok (.getfield 47, 3) := by decide +kernel
theorem dX7_frostsIfWarm_21 : decode cX7_frostsIfWarm 21 = .ok (.aload_n 0, 1) := by decide +kernel
theorem dX7_frostsIfWarm_22 : decode cX7_frostsIfWarm 22 = .ok (.getfield 54, 3) := by decide +kernel
theorem dX7_frostsIfWarm_25 : decode cX7_frostsIfWarm 25 = .ok (.iload_n 1, 1) := by decide +kernel
theorem dX7_frostsIfWarm_26 : decode cX7_frostsIfWarm 26 = .ok (.invokevirtual 97, 3) := by decide +kernel
theorem dX7_frostsIfWarm_29 : decode cX7_frostsIfWarm 29 = .ok (.lor, 1) := by decide +kernel
theorem dX7_frostsIfWarm_30 : decode cX7_frostsIfWarm 30 = .ok (.ldc2_w 113, 3) := by decide +kernel
theorem dX7_frostsIfWarm_33 : decode cX7_frostsIfWarm 33 = .ok (.lxor, 1) := by decide +kernel
theorem dX7_frostsIfWarm_34 : decode cX7_frostsIfWarm 34 = .ok (.land, 1) := by decide +kernel
theorem dX7_frostsIfWarm_35 : decode cX7_frostsIfWarm 35 = .ok (.goto 4, 3) := by decide +kernel
theorem dX7_frostsIfWarm_38 : decode cX7_frostsIfWarm 38 = .ok (.lconst 0, 1) := by decide +kernel
theorem dX7_frostsIfWarm_39 : decode cX7_frostsIfWarm 39 = .ok (.lstore 6, 2) := by decide +kernel
theorem dX7_frostsIfWarm_41 : decode cX7_frostsIfWarm 41 = .ok (.aload_n 0, 1) := by decide +kernel
theorem dX7_frostsIfWarm_42 : decode cX7_frostsIfWarm 42 = .ok (.getfield 61, 3) := by decide +kernel
theorem dX7_frostsIfWarm_45 : decode cX7_frostsIfWarm 45 = .ok (.iload_n 1, 1) := by decide +kernel
theorem dX7_frostsIfWarm_46 : decode cX7_frostsIfWarm 46 = .ok (.invokevirtual 97, 3) := by decide +kernel
theorem dX7_frostsIfWarm_49 : decode cX7_frostsIfWarm 49 = .ok (.lload 4, 2) := by decide +kernel
theorem dX7_frostsIfWarm_51 : decode cX7_frostsIfWarm 51 = .ok (.ldc2_w 113, 3) := by decide +kernel
theorem dX7_frostsIfWarm_54 : decode cX7_frostsIfWarm 54 = .ok (.lxor, 1) := by decide +kernel
theorem dX7_frostsIfWarm_55 : decode cX7_frostsIfWarm 55 = .ok (.land, 1) := by decide +kernel
theorem dX7_frostsIfWarm_56 : decode cX7_frostsIfWarm 56 = .ok (.aload_n 0, 1) := by decide +kernel
theorem dX7_frostsIfWarm_57 : decode cX7_frostsIfWarm 57 = .ok (.getfield 58, 3) := by decide +kernel
theorem dX7_frostsIfWarm_60 : decode cX7_frostsIfWarm 60 = .ok (.iload_n 1, 1) := by decide +kernel
theorem dX7_frostsIfWarm_61 : decode cX7_frostsIfWarm 61 = .ok (.invokevirtual 97, 3) := by decide +kernel
theorem dX7_frostsIfWarm_64 : decode cX7_frostsIfWarm 64 = .ok (.lload 4, 2) := by decide +kernel
theorem dX7_frostsIfWarm_66 : decode cX7_frostsIfWarm 66 = .ok (.land, 1) := by decide +kernel
theorem dX7_frostsIfWarm_67 : decode cX7_frostsIfWarm 67 = .ok (.lor, 1) := by decide +kernel
theorem dX7_frostsIfWarm_68 : decode cX7_frostsIfWarm 68 = .ok (.lload 6, 2) := by decide +kernel
theorem dX7_frostsIfWarm_70 : decode cX7_frostsIfWarm 70 = .ok (.lor, 1) := by decide +kernel
theorem dX7_frostsIfWarm_71 : decode cX7_frostsIfWarm 71 = .ok (.lreturn, 1) := by decide +kernel
def fX7_frostsIfWarm_L39 (a1 : Int32) (a2 : Int32) (a3 : Int32) (h : fd_H) (v4 : Int64) (vs0 : Int64) : Option (Int64) :=
(fX5_at 46 a1 h).bind fun r2 =>
(fX5_at 44 a1 h).bind fun r4 =>
some ((((r2 &&& (v4 ^^^ (-1 : Int64))) ||| (r4 &&& v4)) ||| vs0))
set_option maxRecDepth 100000 in
set_option maxHeartbeats 4000000 in
theorem sX7_frostsIfWarm_L39 {g : fd_G} {hm : fd_H} {a1 : Int32} {a2 : Int32} {a3 : Int32} {h : fd_H} {r : Int64} : ∀ (v4 : Int64) (vs0 : Int64), fX7_frostsIfWarm_L39 a1 a2 a3 h v4 vs0 = some r → fd_A g mX7_frostsIfWarm fd_E (fd_rm 2 0 0) (fd_Q g (some (.long r)) fd_X0 (fd_mx h hm) 0 0) 39 [(0, .ref (g.2.2.2 + 11)), (1, .int a1), (4, .long v4)] [.long vs0] fd_X0 (fd_mx h hm) 0 0 := by
  intro v4 vs0 hf
  unfold fX7_frostsIfWarm_L39 at hf
  refine fr_lstore (pc := 39) (lv' := [(6, .long vs0), (0, .ref (g.2.2.2 + 11)), (1, .int a1), (4, .long v4)]) dX7_frostsIfWarm_39 (by decide) rfl ?_
  refine fr_aload_n (pc := 41) dX7_frostsIfWarm_41 1 rfl rfl ?_
  refine fr_getR (pc := 42) dX7_frostsIfWarm_42 fl_X7_61 (by decide) rfl rfl ?_
  refine fr_iload_n (pc := 45) dX7_frostsIfWarm_45 2 rfl rfl ?_
  obtain ⟨r2, hc1, hf⟩ := fd_bi hf
  refine fr_callVl (pc := 46) (av := [.int a1]) dX7_frostsIfWarm_46 yy_X5_at kw_182 (by decide) rfl rfl rfl rfl (Nat.le_of_ble_eq_true rfl) ⟨Nat.le_of_ble_eq_true rfl, Nat.le_of_ble_eq_true rfl, Nat.zero_le _, Nat.zero_le _⟩ (sX5_at is_46 hc1) ?_
  refine fr_lload (pc := 49) dX7_frostsIfWarm_49 3 rfl ?_
  refine fr_ldc2 (pc := 51) (v := (-1 : Int64)) dX7_frostsIfWarm_51 kw_183 ?_
  refine fr_lxor (pc := 54) dX7_frostsIfWarm_54 ?_
  refine fr_land (pc := 55) dX7_frostsIfWarm_55 ?_
  refine fr_aload_n (pc := 56) dX7_frostsIfWarm_56 1 rfl rfl ?_
  refine fr_getR (pc := 57) dX7_frostsIfWarm_57 fl_X7_58 (by decide) rfl rfl ?_
  refine fr_iload_n (pc := 60) dX7_frostsIfWarm_60 2 rfl rfl ?_
  obtain ⟨r4, hc3, hf⟩ := fd_bi hf
  refine fr_callVl (pc := 61) (av := [.int a1]) dX7_frostsIfWarm_61 yy_X5_at kw_182 (by decide) rfl rfl rfl rfl (Nat.le_of_ble_eq_true rfl) ⟨Nat.le_of_ble_eq_true rfl, Nat.le_of_ble_eq_true rfl, Nat.zero_le _, Nat.zero_le _⟩ (sX5_at is_44 hc3) ?_
  refine fr_lload (pc := 64) dX7_frostsIfWarm_64 3 rfl ?_
  refine fr_land (pc := 66) dX7_frostsIfWarm_66 ?_
  refine fr_lor (pc := 67) dX7_frostsIfWarm_67 ?_
  refine fr_lload (pc := 68) dX7_frostsIfWarm_68 0 rfl ?_
  refine fr_lor (pc := 70) dX7_frostsIfWarm_70 ?_
  exact fr_lretP (x := (((r2 &&& (v4 ^^^ (-1 : Int64))) ||| (r4 &&& v4)) ||| vs0)) (pc := 71) dX7_frostsIfWarm_71 rfl hf
def fX7_frostsIfWarm (a1 : Int32) (a2 : Int32) (a3 : Int32) (h : fd_H) : Option (Int64) :=
fd_lt ((fd_lshl (1 : Int64) a2)) fun x1 =>
(fX7_isCold a2 a1 a3 h).bind fun r3 =>
if r3 = true then (
(fX5_at 42 a1 h).bind fun r6 =>
fX7_frostsIfWarm_L39 a1 a2 a3 h x1 (x1 &&& (((h.2 11 7) ||| r6) ^^^ (-1 : Int64))))
else (
fX7_frostsIfWarm_L39 a1 a2 a3 h x1 (0 : Int64))
set_option maxRecDepth 100000 in
set_option maxHeartbeats 4000000 in
theorem sX7_frostsIfWarm {g : fd_G} {hm : fd_H} {a1 : Int32} {a2 : Int32} {a3 : Int32} {h : fd_H} {r : Int64} (hf : fX7_frostsIfWarm a1 a2 a3 h = some r) : fd_S g mX7_frostsIfWarm 2 [.ref (g.2.2.2 + 11), .int a1, .int a2, .int a3] fd_X0 (fd_mx h hm) (some (.long r)) fd_X0 (fd_mx h hm) 0 0 := by
  refine fd_S.of (by decide +kernel) (Nat.le_of_ble_eq_true rfl) ?_
  unfold fX7_frostsIfWarm at hf
  refine fr_loc (lv' := [(0, .ref (g.2.2.2 + 11)), (1, .int a1), (2, .int a2), (3, .int a3)]) [0, 1, 2, 3] rfl ?_
  refine fr_lconst (pc := 0) (v := (1 : Int64)) dX7_frostsIfWarm_0 (by decide) ?_
  refine fr_iload_n (pc := 1) dX7_frostsIfWarm_1 2 rfl rfl ?_
  refine fr_lshl (pc := 2) dX7_frostsIfWarm_2 ?_
  obtain ⟨x1, ex1, hf⟩ := fd_lt_e hf
  refine fr_nml ex1 ?_
  refine fr_lstore (pc := 3) (lv' := [(4, .long x1), (0, .ref (g.2.2.2 + 11)), (1, .int a1), (2, .int a2), (3, .int a3)]) dX7_frostsIfWarm_3 (by decide) rfl ?_
  refine fr_aload_n (pc := 5) dX7_frostsIfWarm_5 1 rfl rfl ?_
  refine fr_iload_n (pc := 6) dX7_frostsIfWarm_6 3 rfl rfl ?_
  refine fr_iload_n (pc := 7) dX7_frostsIfWarm_7 2 rfl rfl ?_
  refine fr_iload_n (pc := 8) dX7_frostsIfWarm_8 4 rfl rfl ?_
  obtain ⟨r3, hc2, hf⟩ := fd_bi hf
  refine fr_callVz (pc := 9) (av := [.int a2, .int a1, .int a3]) dX7_frostsIfWarm_9 yy_X7_isCold kw_188 (by decide) rfl rfl rfl rfl (Nat.le_of_ble_eq_true rfl) ⟨Nat.le_of_ble_eq_true rfl, Nat.le_of_ble_eq_true rfl, Nat.zero_le _, Nat.zero_le _⟩ (sX7_isCold hc2) ?_
  refine fr_bz (pc := 12) 38 dX7_frostsIfWarm_12 (by decide) (fun c4 => ?_) (fun c4 => ?_)
  · have hf := fd_f c4 hf
    refine fr_lconst (pc := 38) (v := (0 : Int64)) dX7_frostsIfWarm_38 (by decide) ?_
    refine fr_loc (lv' := [(0, .ref (g.2.2.2 + 11)), (1, .int a1), (4, .long x1)]) [1, 2, 0] rfl ?_
    exact sX7_frostsIfWarm_L39  _ _ hf
  · have hf := fd_t c4 hf
    refine fr_lload (pc := 15) dX7_frostsIfWarm_15 0 rfl ?_
    refine fr_aload_n (pc := 17) dX7_frostsIfWarm_17 1 rfl rfl ?_
    refine vx_getL (pc := 18) dX7_frostsIfWarm_18 fl_X7_47 (by decide) (by decide) rfl rfl ?_
    refine fr_aload_n (pc := 21) dX7_frostsIfWarm_21 1 rfl rfl ?_
    refine fr_getR (pc := 22) dX7_frostsIfWarm_22 fl_X7_54 (by decide) rfl rfl ?_
    refine fr_iload_n (pc := 25) dX7_frostsIfWarm_25 2 rfl rfl ?_
    obtain ⟨r6, hc5, hf⟩ := fd_bi hf
    refine fr_callVl (pc := 26) (av := [.int a1]) dX7_frostsIfWarm_26 yy_X5_at kw_182 (by decide) rfl rfl rfl rfl (Nat.le_of_ble_eq_true rfl) ⟨Nat.le_of_ble_eq_true rfl, Nat.le_of_ble_eq_true rfl, Nat.zero_le _, Nat.zero_le _⟩ (sX5_at is_42 hc5) ?_
    refine fr_lor (pc := 29) dX7_frostsIfWarm_29 ?_
    refine fr_ldc2 (pc := 30) (v := (-1 : Int64)) dX7_frostsIfWarm_30 kw_183 ?_
    refine fr_lxor (pc := 33) dX7_frostsIfWarm_33 ?_
    refine fr_land (pc := 34) dX7_frostsIfWarm_34 ?_
    refine fr_goto (pc := 35) 39 dX7_frostsIfWarm_35 (by decide) ?_
    refine fr_loc (lv' := [(0, .ref (g.2.2.2 + 11)), (1, .int a1), (4, .long x1)]) [1, 2, 0] rfl ?_
    exact sX7_frostsIfWarm_L39  _ _ hf
theorem dX8_debt_0 : decode cX8_debt 0 = .ok (.iload_n 1, 1) := by decide +kernel
theorem dX8_debt_1 : decode cX8_debt 1 = .ok (.aload_n 0, 1) := by decide +kernel
theorem dX8_debt_2 : decode cX8_debt 2 = .ok (.getfield 33, 3) := by decide +kernel
theorem dX8_debt_5 : decode cX8_debt 5 = .ok (.getfield 104, 3) := by decide +kernel
theorem dX8_debt_8 : decode cX8_debt 8 = .ok (.invokestatic 62, 3) := by decide +kernel
theorem dX8_debt_11 : decode cX8_debt 11 = .ok (.ifCond .eq 11, 3) := by decide +kernel
theorem dX8_debt_14 : decode cX8_debt 14 = .ok (.iload_n 2, 1) := by decide +kernel
theorem dX8_debt_15 : decode cX8_debt 15 = .ok (.iconst 5, 1) := by decide +kernel
theorem dX8_debt_16 : decode cX8_debt 16 = .ok (.invokestatic 62, 3) := by decide +kernel
theorem dX8_debt_19 : decode cX8_debt 19 = .ok (.ifCond .ne 6, 3) := by decide +kernel
theorem dX8_debt_22 : decode cX8_debt 22 = .ok (.bipush (-2), 2) := by decide +kernel
theorem dX8_debt_24 : decode cX8_debt 24 = .ok (.ireturn, 1) := by decide +kernel
theorem dX8_debt_25 : decode cX8_debt 25 = .ok (.aload_n 0, 1) := by decide +kernel
theorem dX8_debt_26 : decode cX8_debt 26 = .ok (.getfield 33, 3) := by decide +kernel
theorem dX8_debt_29 : decode cX8_debt 29 = .ok (.iload_n 1, 1) := by decide +kernel
theorem dX8_debt_30 : decode cX8_debt 30 = .ok (.iload_n 2, 1) := by decide +kernel
theorem dX8_debt_31 : decode cX8_debt 31 = .ok (.invokevirtual 107, 3) := by decide +kernel
theorem dX8_debt_34 : decode cX8_debt 34 = .ok (.ireturn, 1) := by decide +kernel
def fX8_debt (a1 : Int32) (a2 : Int32) (h : fd_H) : Option (Int32) :=
(fX8_isBelow a1 (h.1 48 1)).bind fun r2 =>
if r2 = true then (
(fX8_isBelow a2 (5 : Int32)).bind fun r5 =>
if r5 = true then (
(fX0_fact a1 a2 h).bind fun r8 =>
some (r8))
else (
some ((-2 : Int32))))
else (
some ((-2 : Int32)))
set_option maxRecDepth 100000 in
set_option maxHeartbeats 4000000 in
theorem sX8_debt {g : fd_G} {hm : fd_H} {a1 : Int32} {a2 : Int32} {h : fd_H} {r : Int32} (hf : fX8_debt a1 a2 h = some r) : fd_S g mX8_debt 2 [.ref (g.2.2.2 + 0), .int a1, .int a2] fd_X0 (fd_mx h hm) (some (.int r)) fd_X0 (fd_mx h hm) 0 0 := by
  refine fd_S.of (by decide +kernel) (Nat.le_of_ble_eq_true rfl) ?_
  unfold fX8_debt at hf
  refine fr_loc (lv' := [(0, .ref (g.2.2.2 + 0)), (1, .int a1), (2, .int a2)]) [0, 1, 2] rfl ?_
  refine fr_iload_n (pc := 0) dX8_debt_0 1 rfl rfl ?_
  refine fr_aload_n (pc := 1) dX8_debt_1 0 rfl rfl ?_
  refine fr_getR (pc := 2) dX8_debt_2 fl_X8_33 (by decide) rfl rfl ?_
  refine vx_getI (pc := 5) dX8_debt_5 fl_X8_104 (by decide) (by decide) rfl rfl ?_
  obtain ⟨r2, hc1, hf⟩ := fd_bi hf
  refine fr_callSz (pc := 8) (av := [.int a1, .int (h.1 48 1)]) dX8_debt_8 yy_X8_isBelow kw_111 rfl rfl (Nat.le_of_ble_eq_true rfl) ⟨Nat.le_of_ble_eq_true rfl, Nat.le_of_ble_eq_true rfl, Nat.zero_le _, Nat.zero_le _⟩ (sX8_isBelow hc1) ?_
  refine fr_bz (pc := 11) 22 dX8_debt_11 (by decide) (fun c3 => ?_) (fun c3 => ?_)
  · have hf := fd_f c3 hf
    refine fr_bipush (pc := 22) (v := (-2 : Int32)) dX8_debt_22 (by decide) ?_
    exact fr_iretP (x := (-2 : Int32)) (pc := 24) dX8_debt_24 rfl hf
  · have hf := fd_t c3 hf
    refine fr_iload_n (pc := 14) dX8_debt_14 2 rfl rfl ?_
    refine fr_iconst (pc := 15) (v := (5 : Int32)) dX8_debt_15 (by decide) ?_
    obtain ⟨r5, hc4, hf⟩ := fd_bi hf
    refine fr_callSz (pc := 16) (av := [.int a2, .int (5 : Int32)]) dX8_debt_16 yy_X8_isBelow kw_111 rfl rfl (Nat.le_of_ble_eq_true rfl) ⟨Nat.le_of_ble_eq_true rfl, Nat.le_of_ble_eq_true rfl, Nat.zero_le _, Nat.zero_le _⟩ (sX8_isBelow hc4) ?_
    refine fr_bn (pc := 19) 25 dX8_debt_19 (by decide) (fun c6 => ?_) (fun c6 => ?_)
    · have hf := fd_t c6 hf
      refine fr_aload_n (pc := 25) dX8_debt_25 0 rfl rfl ?_
      refine fr_getR (pc := 26) dX8_debt_26 fl_X8_33 (by decide) rfl rfl ?_
      refine fr_iload_n (pc := 29) dX8_debt_29 1 rfl rfl ?_
      refine fr_iload_n (pc := 30) dX8_debt_30 2 rfl rfl ?_
      obtain ⟨r8, hc7, hf⟩ := fd_bi hf
      refine fr_callVi (pc := 31) (av := [.int a1, .int a2]) dX8_debt_31 yy_X0_fact kw_195 (by decide) rfl rfl rfl rfl (Nat.le_of_ble_eq_true rfl) ⟨Nat.le_of_ble_eq_true rfl, Nat.le_of_ble_eq_true rfl, Nat.zero_le _, Nat.zero_le _⟩ (sX0_fact hc7) ?_
      exact fr_iretP (x := r8) (pc := 34) dX8_debt_34 rfl hf
    · have hf := fd_f c6 hf
      refine fr_bipush (pc := 22) (v := (-2 : Int32)) dX8_debt_22 (by decide) ?_
      exact fr_iretP (x := (-2 : Int32)) (pc := 24) dX8_debt_24 rfl hf
