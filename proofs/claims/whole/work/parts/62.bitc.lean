/-! ===== Long.bitCount ===== -/
theorem nd_e1 {p0 p1 p2 p3 p4 : Nat} (b0 : p0 < 9) (b1 : p1 < 9) (b2 : p2 < 9) (b3 : p3 < 9) (b4 : p4 < 9) : ((p0 + p1) + (p2 + p3)) + 256 * ((p1 + p2) + (p3 + p4)) < 65536 := by omega
theorem nd_e2 {A B Z : Nat} (hA : A < 65536) (hB : B < 65536) : (A + 65536 * B + 4294967296 * Z) / 4294967296 = Z := by omega
theorem nd_e3 {A B C D E Z : Nat} (h : A + D < 128) (hZ : Z = D + 256 * E) : (A + 256 * B + 65536 * C + 4294967296 * Z + Z) % 128 = A + D := by omega
theorem nd_e4 {A B Z : Nat} (hA : A < 256) (hB : B < 256) : (A + 256 * (B + 256 * Z)) / 65536 = Z := by omega
theorem nd_e5 {r r' p p' s : Nat} (h : r = p + 256 * r') (h' : r' = p' + 256 * s) : r + r' = (p + p') + 256 * (r' + s) := by omega
theorem nd_e6 {X T U V s0 s1 s2 s3 s4 s5 : Nat} (hX : X = s0 + 256 * (s1 + 256 * T)) (hT : T = s2 + 256 * (s3 + 256 * U)) (hU : U = s4 + 256 * (s5 + 256 * V)) : X + T = ((s0 + s2) + 256 * (s1 + s3)) + 65536 * ((s2 + s4) + 256 * (s3 + s5)) + 4294967296 * (U + V) := by omega
theorem nd_e7 {A B C D E F G H : Nat} (h1 : A < 9) (h2 : B < 9) (h3 : C < 9) (h4 : D < 9) (h5 : E < 9) (h6 : F < 9) (h7 : G < 9) (h8 : H < 9) : ((A + B) + (C + D)) + ((E + F) + (G + H)) < 128 := by omega
theorem nd_e8 {U V s4 s5 s6 s7 : Nat} (hU : U = s4 + 256 * s5) (hV : V = s6 + 256 * s7) : U + V = (s4 + s6) + 256 * (s5 + s7) := by omega
theorem nd_e9 {A B C D E F G H : Nat} : ((A + B) + (C + D)) + ((E + F) + (G + H)) = A + (B + (C + (D + (E + (F + (G + H)))))) := by omega
theorem nd_ea {p q : Nat} (h1 : p < 9) (h2 : q < 9) : p + q < 256 := by omega
theorem nd_eb {a p r : Nat} (h : a = p + 256 * r) (hp : p < 9) : a / 256 = r := by omega
theorem nd_ec {X T s0 s1 : Nat} (hX : X = s0 + 256 * (s1 + 256 * T)) : T ≤ X := by omega
theorem nd_ed {X T U V s0 s1 s2 s3 : Nat} (hX : X = s0 + 256 * (s1 + 256 * T)) (hT : T = s2 + 256 * (s3 + 256 * U)) (hU : V ≤ U) : U + V ≤ X := by omega
theorem nd_end {a p0 p1 p2 p3 p4 p5 p6 p7 r1 r2 r3 r4 r5 r6 : Nat} (b0 : p0 < 9) (b1 : p1 < 9) (b2 : p2 < 9) (b3 : p3 < 9) (b4 : p4 < 9) (b5 : p5 < 9) (b6 : p6 < 9) (b7 : p7 < 9) (g6 : r6 = p6 + 256 * p7) (g5 : r5 = p5 + 256 * r6) (g4 : r4 = p4 + 256 * r5) (g3 : r3 = p3 + 256 * r4) (g2 : r2 = p2 + 256 * r3) (g1 : r1 = p1 + 256 * r2) (ev : a = p0 + 256 * r1) : a / 256 = r1 ∧ (a + r1) / 65536 = r2 + r3 ∧ (a + r1 + (r2 + r3)) / 4294967296 = r4 + r5 + (r6 + p7) ∧ (a + r1 + (r2 + r3) + (r4 + r5 + (r6 + p7))) % 128 = p0 + (p1 + (p2 + (p3 + (p4 + (p5 + (p6 + p7)))))) ∧ r2 + r3 ≤ a + r1 ∧ r4 + r5 + (r6 + p7) ≤ a + r1 := by
  have w6 : r6 + p7 = (p6 + p7) + 256 * (p7 + 0) := nd_e5 (s := 0) g6 (Nat.add_zero p7).symm
  have w5 := nd_e5 g5 g6
  have w4 := nd_e5 g4 g5
  have w3 := nd_e5 g3 g4
  have w2 := nd_e5 g2 g3
  have w1 := nd_e5 g1 g2
  have w0 := nd_e5 ev g1
  have v4 := w4
  rw [w5] at w4
  rw [w3] at w2
  rw [w1] at w0
  have z := nd_e6 w0 w2 w4
  refine ⟨nd_eb ev b0, ?_, ?_, ?_, nd_ec w0, nd_ed w0 w2 (nd_ec w4)⟩
  · rw [w0, nd_e4 (nd_ea b0 b1) (nd_ea b1 b2)]
  · rw [z, nd_e2 (nd_e1 b0 b1 b2 b3 b4) (nd_e1 b2 b3 b4 b5 b6)]
  · rw [z, nd_e3 (nd_e7 b0 b1 b2 b3 b4 b5 b6 b7) (nd_e8 v4 w6), nd_e9]
theorem bitCount_eq (x : Int64) : fJ13_bitCount_95d88 x = some (nI (sp_ct (gb x) 64)) := by
  have hn : x.toBitVec.toNat < 2 ^ 64 := x.toBitVec.isLt
  rw [ct_nat]
  unfold fJ13_bitCount_95d88
  rw [show (1 : Int32) = nI 1 from rfl, show (2 : Int32) = nI 2 from rfl, show (4 : Int32) = nI 4 from rfl, show (8 : Int32) = nI 8 from rfl, show (16 : Int32) = nI 16 from rfl, show (32 : Int32) = nI 32 from rfl]
  generalize hN : x.toBitVec.toNat = n at *
  have h1 : (x - (fd_lushr x (nI 1) &&& 6148914691236517205)).toBitVec.toNat = nd_1 8 n := by
    have e : (fd_lushr x (nI 1) &&& 6148914691236517205).toBitVec.toNat = n / 2 &&& nd_m 85 8 := by
      rw [land_nat, lu_nat x (by omega), nm_5, hN]
    have l : n / 2 &&& nd_m 85 8 ≤ n / 2 := Nat.and_le_left
    rw [lsub_nat (by rw [e, hN]; omega), e, hN]; rfl
  rw [fd_lt]
  generalize x - (fd_lushr x (nI 1) &&& 6148914691236517205) = x1 at *
  have l2 : nd_x 8 n ≤ 7378697629483820646 := by
    have a1 : nd_1 8 n &&& nd_m 51 8 ≤ nd_m 51 8 := Nat.and_le_right
    have a2 : nd_1 8 n / 4 &&& nd_m 51 8 ≤ nd_m 51 8 := Nat.and_le_right
    unfold nd_x nd_2
    rw [nm_3v] at *
    omega
  have h2 : ((x1 &&& 3689348814741910323) + (fd_lushr x1 (nI 2) &&& 3689348814741910323)).toBitVec.toNat = nd_x 8 n := by
    have e1 : (x1 &&& 3689348814741910323).toBitVec.toNat = nd_1 8 n &&& nd_m 51 8 := by rw [land_nat, nm_3, h1]
    have e2 : (fd_lushr x1 (nI 2) &&& 3689348814741910323).toBitVec.toNat = nd_1 8 n / 4 &&& nd_m 51 8 := by rw [land_nat, lu_nat x1 (by omega), nm_3, h1]
    have l3 : (nd_1 8 n &&& nd_m 51 8) + (nd_1 8 n / 4 &&& nd_m 51 8) ≤ 7378697629483820646 := l2
    rw [ladd_nat (by rw [e1, e2]; omega), e1, e2]; rfl
  rw [fd_lt]
  generalize (x1 &&& 3689348814741910323) + (fd_lushr x1 (nI 2) &&& 3689348814741910323) = x2 at *
  have h3 : ((x2 + fd_lushr x2 (nI 4)) &&& 1085102592571150095).toBitVec.toNat = nd_v 8 n := by
    have e1 : (fd_lushr x2 (nI 4)).toBitVec.toNat = nd_x 8 n / 16 := by rw [lu_nat x2 (by omega), h2]
    have e2 : (x2 + fd_lushr x2 (nI 4)).toBitVec.toNat = nd_x 8 n + nd_x 8 n / 16 := by
      rw [ladd_nat (by rw [e1, h2]; omega), e1, h2]
    rw [land_nat, e2, nm_f]; rfl
  rw [fd_lt]
  generalize (x2 + fd_lushr x2 (nI 4)) &&& 1085102592571150095 = x3 at *
  have l3 : nd_v 8 n ≤ 1085102592571150095 := by
    have a1 : nd_v 8 n ≤ nd_m 15 8 := Nat.and_le_right
    rw [nm_fv] at a1
    exact a1
  obtain ⟨p0, p1, p2, p3, p4, p5, p6, p7, b0, b1, b2, b3, b4, b5, b6, b7, ev, eb⟩ := nd_fin n
  rw [eb]
  generalize nd_v 8 n = a at *
  clear l2 h2 h1 eb hN hn x2 x1
  obtain ⟨r6, g6⟩ : ∃ r, r = p6 + 256 * p7 := ⟨_, rfl⟩
  rw [← g6] at ev
  obtain ⟨r5, g5⟩ : ∃ r, r = p5 + 256 * r6 := ⟨_, rfl⟩
  rw [← g5] at ev
  obtain ⟨r4, g4⟩ : ∃ r, r = p4 + 256 * r5 := ⟨_, rfl⟩
  rw [← g4] at ev
  obtain ⟨r3, g3⟩ : ∃ r, r = p3 + 256 * r4 := ⟨_, rfl⟩
  rw [← g3] at ev
  obtain ⟨r2, g2⟩ : ∃ r, r = p2 + 256 * r3 := ⟨_, rfl⟩
  rw [← g2] at ev
  obtain ⟨r1, g1⟩ : ∃ r, r = p1 + 256 * r2 := ⟨_, rfl⟩
  rw [← g1] at ev
  obtain ⟨k1, k2, k3, k4, k5⟩ := nd_end b0 b1 b2 b3 b4 b5 b6 b7 g6 g5 g4 g3 g2 g1 ev
  have k6 : r1 ≤ a := by clear g1 g2 g3 g4 g5 g6 k1 k2 k3 k4 k5; omega
  clear b0 b1 b2 b3 b4 b5 b6 b7 g6 g5 g4 g3 g2 g1 ev
  have h4 : (x3 + fd_lushr x3 (nI 8)).toBitVec.toNat = a + r1 := by
    have e1 : (fd_lushr x3 (nI 8)).toBitVec.toNat = r1 := by rw [lu_nat x3 (by omega), h3]; exact k1
    rw [ladd_nat (by rw [e1, h3]; omega), e1, h3]
  rw [fd_lt]
  generalize x3 + fd_lushr x3 (nI 8) = x4 at *
  have h5 : (x4 + fd_lushr x4 (nI 16)).toBitVec.toNat = a + r1 + (r2 + r3) := by
    have e1 : (fd_lushr x4 (nI 16)).toBitVec.toNat = r2 + r3 := by rw [lu_nat x4 (by omega), h4]; exact k2
    rw [ladd_nat (by rw [e1, h4]; omega), e1, h4]
  rw [fd_lt]
  generalize x4 + fd_lushr x4 (nI 16) = x5 at *
  have h6 : (x5 + fd_lushr x5 (nI 32)).toBitVec.toNat = a + r1 + (r2 + r3) + (r4 + r5 + (r6 + p7)) := by
    have e1 : (fd_lushr x5 (nI 32)).toBitVec.toNat = r4 + r5 + (r6 + p7) := by rw [lu_nat x5 (by omega), h5]; exact k3
    rw [ladd_nat (by rw [e1, h5]; omega), e1, h5]
  rw [fd_lt]
  generalize x5 + fd_lushr x5 (nI 32) = x6 at *
  have e7 : x6.toInt32.toBitVec.toNat = x6.toBitVec.toNat % 2 ^ 32 := by rw [Int64.toBitVec_toInt32, BitVec.signExtend_eq_setWidth_of_le _ (by omega), BitVec.toNat_setWidth]
  rw [pk_and _ 7 (m := 127) (by decide), e7]
  congr 2
  rw [h6]
  generalize a + r1 + (r2 + r3) + (r4 + r5 + (r6 + p7)) = Y at *
  show Y % 4294967296 % 128 = _
  rw [← k4]
  clear k1 k2 k3 k4 k5 k6 h3 h4 h5 h6 l3
  omega
theorem bitCount_ct {x : Int64} {q : Nat → Bool} {K : Nat} (hK : K ≤ 64) (h : ∀ i, i < 64 → gb x i = (decide (i < K) && q i)) : fJ13_bitCount_95d88 x = some (nI (sp_ct q K)) := by
  rw [bitCount_eq, ct_cut hK (fun j h1 h2 => by rw [h j h2, decide_eq_false (by omega), Bool.false_and]), ct_cong (r := q) (fun j hj => by rw [h j (by omega), decide_eq_true hj, Bool.true_and])]
