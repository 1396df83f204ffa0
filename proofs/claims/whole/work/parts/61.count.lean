/-! ===== how many bits a long has ===== -/
theorem nd_and {a b c d : Nat} (ha : a < 256) (hb : b < 256) : (a + 256 * c) &&& (b + 256 * d) = (a &&& b) + 256 * (c &&& d) := by
  have ha' : a < 2 ^ 8 := ha
  have hb' : b < 2 ^ 8 := hb
  have hc' : a &&& b < 2 ^ 8 := Nat.lt_of_le_of_lt Nat.and_le_left ha
  have e1 : a + 256 * c = 2 ^ 8 * c + a := Nat.add_comm _ _
  have e2 : b + 256 * d = 2 ^ 8 * d + b := Nat.add_comm _ _
  have e3 : (a &&& b) + 256 * (c &&& d) = 2 ^ 8 * (c &&& d) + (a &&& b) := Nat.add_comm _ _
  rw [e1, e2, e3]
  apply Nat.eq_of_testBit_eq
  intro i
  rw [Nat.testBit_and, Nat.testBit_two_pow_mul_add _ ha', Nat.testBit_two_pow_mul_add _ hb', Nat.testBit_two_pow_mul_add _ hc']
  by_cases h : i < 8
  · rw [if_pos h, if_pos h, if_pos h, Nat.testBit_and]
  · rw [if_neg h, if_neg h, if_neg h, Nat.testBit_and]
def nd_m (b : Nat) : Nat → Nat
  | 0 => 0
  | k + 1 => b + 256 * nd_m b k
def nd_1 (k n : Nat) : Nat := n - (n / 2 &&& nd_m 85 k)
def nd_2 (k n : Nat) : Nat := (n &&& nd_m 51 k) + (n / 4 &&& nd_m 51 k)
def nd_3 (k n : Nat) : Nat := (n + n / 16) &&& nd_m 15 k
def nb_1 (b : Nat) : Nat := b - (b / 2 &&& 85)
def nb_2 (b : Nat) : Nat := (b &&& 51) + (b / 4 &&& 51)
def nb_3 (b : Nat) : Nat := (b + b / 16) &&& 15
def nb_4 (b : Nat) : Nat := nb_3 (nb_2 (nb_1 b))
theorem nb_t1 : ∀ b, b < 256 → ∀ t, t < 2 → (b / 2 + 128 * t) &&& 85 = b / 2 &&& 85 := by decide +kernel
theorem nb_t2 : ∀ b, b < 256 → ∀ t, t < 4 → (b / 4 + 64 * t) &&& 51 = b / 4 &&& 51 := by decide +kernel
theorem nb_t3 : ∀ b, b < 256 → nb_1 b < 256 ∧ nb_2 (nb_1 b) < 69 ∧ nb_2 (nb_1 b) % 16 < 5 := by decide +kernel
theorem nb_t4 : ∀ b, b < 69 → ∀ t, t < 5 → (b + b / 16 + 16 * t) &&& 15 = nb_3 b := by decide +kernel
theorem nb_t5 : ∀ b, b < 256 → nb_4 b = sp_sum (fun i => b / 2 ^ i % 2) 8 ∧ nb_4 b < 9 := by decide +kernel
theorem nd_s1 (k b m : Nat) (hb : b < 256) : nd_1 (k + 1) (b + 256 * m) = nb_1 b + 256 * nd_1 k m := by
  have e : (b + 256 * m) / 2 = (b / 2 + 128 * (m % 2)) + 256 * (m / 2) := by omega
  have l1 : m / 2 &&& nd_m 85 k ≤ m / 2 := Nat.and_le_left
  have l2 : b / 2 &&& 85 ≤ b / 2 := Nat.and_le_left
  show (b + 256 * m) - ((b + 256 * m) / 2 &&& (85 + 256 * nd_m 85 k)) = (b - (b / 2 &&& 85)) + 256 * (m - (m / 2 &&& nd_m 85 k))
  rw [e, nd_and (by omega) (by omega), nb_t1 b hb _ (by omega)]
  generalize (m / 2 &&& nd_m 85 k) = A at *
  generalize (b / 2 &&& 85) = B at *
  omega
theorem nd_s2 (k b m : Nat) (hb : b < 256) : nd_2 (k + 1) (b + 256 * m) = nb_2 b + 256 * nd_2 k m := by
  have e : (b + 256 * m) / 4 = (b / 4 + 64 * (m % 4)) + 256 * (m / 4) := by omega
  show ((b + 256 * m) &&& (51 + 256 * nd_m 51 k)) + ((b + 256 * m) / 4 &&& (51 + 256 * nd_m 51 k)) = ((b &&& 51) + (b / 4 &&& 51)) + 256 * ((m &&& nd_m 51 k) + (m / 4 &&& nd_m 51 k))
  rw [e, nd_and hb (by omega), nd_and (by omega) (by omega), nb_t2 b hb _ (by omega)]
  generalize (m &&& nd_m 51 k) = A
  generalize (b &&& 51) = B
  generalize (m / 4 &&& nd_m 51 k) = C
  generalize (b / 4 &&& 51) = D
  omega
theorem nd_s3 (k b m : Nat) (hb : b < 69) (hm : m % 16 < 5) : nd_3 (k + 1) (b + 256 * m) = nb_3 b + 256 * nd_3 k m := by
  have e : (b + 256 * m) + (b + 256 * m) / 16 = (b + b / 16 + 16 * (m % 16)) + 256 * (m + m / 16) := by omega
  show ((b + 256 * m) + (b + 256 * m) / 16) &&& (15 + 256 * nd_m 15 k) = nb_3 b + 256 * ((m + m / 16) &&& nd_m 15 k)
  rw [e, nd_and (by omega) (by omega), nb_t4 b hb _ hm]
def nd_x (k n : Nat) : Nat := nd_2 k (nd_1 k n)
theorem nd_sx (k n : Nat) : nd_x (k + 1) n = nb_2 (nb_1 (n % 256)) + 256 * nd_x k (n / 256) := by
  have e : n % 256 + 256 * (n / 256) = n := by omega
  have h := nb_t3 (n % 256) (by omega)
  have e1 := nd_s1 k (n % 256) (n / 256) (by omega)
  rw [e] at e1
  unfold nd_x
  rw [e1, nd_s2 _ _ _ h.1]
theorem nd_x16 (k n : Nat) : nd_x k n % 16 < 5 := by
  cases k with
  | zero =>
    show ((nd_1 0 n &&& 0) + (nd_1 0 n / 4 &&& 0)) % 16 < 5
    rw [Nat.and_zero, Nat.and_zero]; decide
  | succ k =>
    have h := nb_t3 (n % 256) (by omega)
    rw [nd_sx]; omega
def nd_v (k n : Nat) : Nat := nd_3 k (nd_x k n)
theorem nd_sv (k n : Nat) : nd_v (k + 1) n = nb_4 (n % 256) + 256 * nd_v k (n / 256) := by
  have h := nb_t3 (n % 256) (by omega)
  unfold nd_v
  rw [nd_sx, nd_s3 _ _ _ h.2.1 (nd_x16 _ _)]; rfl
theorem nd_v0 (n : Nat) : nd_v 0 n = 0 := Nat.and_zero _
theorem sum_add {f : Nat → Nat} (a : Nat) : ∀ b, sp_sum f (a + b) = sp_sum f a + sp_sum (fun i => f (a + i)) b
  | 0 => rfl
  | b + 1 => by
    show sp_sum f (a + b) + f (a + b) = sp_sum f a + (sp_sum (fun i => f (a + i)) b + f (a + b))
    rw [sum_add a b]; omega
def nd_b (k n : Nat) : Nat := sp_sum (fun i => n / 2 ^ i % 2) (8 * k)
theorem nd_lo (n : Nat) {j : Nat} (hj : j < 8) : n / 2 ^ j % 2 = n % 256 / 2 ^ j % 2 := by
  rcases (show j = 0 ∨ j = 1 ∨ j = 2 ∨ j = 3 ∨ j = 4 ∨ j = 5 ∨ j = 6 ∨ j = 7 by omega) with rfl | rfl | rfl | rfl | rfl | rfl | rfl | rfl <;> omega
theorem nd_hi (n j : Nat) : n / 2 ^ (8 + j) % 2 = n / 256 / 2 ^ j % 2 := by
  show n / 2 ^ (8 + j) % 2 = n / 2 ^ 8 / 2 ^ j % 2
  rw [Nat.pow_add, ← Nat.div_div_eq_div_mul]
theorem nd_sb (k n : Nat) : nd_b (k + 1) n = nb_4 (n % 256) + nd_b k (n / 256) := by
  unfold nd_b
  rw [show 8 * (k + 1) = 8 + 8 * k by omega, sum_add, (nb_t5 _ (by omega)).1]
  have a1 : sp_sum (fun i => n / 2 ^ i % 2) 8 = sp_sum (fun i => n % 256 / 2 ^ i % 2) 8 := sum_cong (fun j hj => nd_lo n hj)
  have a2 : sp_sum (fun i => n / 2 ^ (8 + i) % 2) (8 * k) = sp_sum (fun i => n / 256 / 2 ^ i % 2) (8 * k) := sum_cong (fun j _ => nd_hi n j)
  rw [a1, a2]
theorem nd_fin (n : Nat) : ∃ p0 p1 p2 p3 p4 p5 p6 p7, p0 < 9 ∧ p1 < 9 ∧ p2 < 9 ∧ p3 < 9 ∧ p4 < 9 ∧ p5 < 9 ∧ p6 < 9 ∧ p7 < 9 ∧ nd_v 8 n = p0 + 256 * (p1 + 256 * (p2 + 256 * (p3 + 256 * (p4 + 256 * (p5 + 256 * (p6 + 256 * p7)))))) ∧ nd_b 8 n = p0 + (p1 + (p2 + (p3 + (p4 + (p5 + (p6 + p7)))))) := by
  have t : ∀ m, nb_4 (m % 256) < 9 := fun m => (nb_t5 _ (by omega)).2
  refine ⟨_, _, _, _, _, _, _, _, t n, t (n / 256), t (n / 256 / 256), t (n / 256 / 256 / 256), t (n / 256 / 256 / 256 / 256), t (n / 256 / 256 / 256 / 256 / 256), t (n / 256 / 256 / 256 / 256 / 256 / 256), t (n / 256 / 256 / 256 / 256 / 256 / 256 / 256), ?_, ?_⟩
  · rw [nd_sv 7, nd_sv 6, nd_sv 5, nd_sv 4, nd_sv 3, nd_sv 2, nd_sv 1, nd_sv 0, nd_v0]
    rfl
  · rw [nd_sb 7, nd_sb 6, nd_sb 5, nd_sb 4, nd_sb 3, nd_sb 2, nd_sb 1, nd_sb 0]
    rfl
theorem lu_nat (x : Int64) {k : Nat} (hk : k < 64) : (fd_lushr x (nI k)).toBitVec.toNat = x.toBitVec.toNat / 2 ^ k := by
  unfold fd_lushr
  show (x.toUInt64 >>> ((nI k).toInt64.toUInt64 &&& Int64.toUInt64 63)).toNat = _
  rw [UInt64.toNat_shiftRight, lu_tab k hk, Nat.mod_eq_of_lt hk, Nat.shiftRight_eq_div_pow]; rfl
theorem lsub_nat {x y : Int64} (h : y.toBitVec.toNat ≤ x.toBitVec.toNat) : (x - y).toBitVec.toNat = x.toBitVec.toNat - y.toBitVec.toNat := BitVec.toNat_sub_of_le (BitVec.le_def.mpr h)
theorem ladd_nat {x y : Int64} (h : x.toBitVec.toNat + y.toBitVec.toNat < 2 ^ 64) : (x + y).toBitVec.toNat = x.toBitVec.toNat + y.toBitVec.toNat := BitVec.toNat_add_of_lt h
theorem land_nat (x y : Int64) : (x &&& y).toBitVec.toNat = x.toBitVec.toNat &&& y.toBitVec.toNat := by rw [Int64.toBitVec_and, BitVec.toNat_and]
theorem nm_5 : (6148914691236517205 : Int64).toBitVec.toNat = nd_m 85 8 := by decide +kernel
theorem nm_3 : (3689348814741910323 : Int64).toBitVec.toNat = nd_m 51 8 := by decide +kernel
theorem nm_f : (1085102592571150095 : Int64).toBitVec.toNat = nd_m 15 8 := by decide +kernel
theorem nm_3v : nd_m 51 8 = 3689348814741910323 := by decide +kernel
theorem nm_fv : nd_m 15 8 = 1085102592571150095 := by decide +kernel
def sp_ct (q : Nat → Bool) (n : Nat) : Nat := sp_sum (fun i => if q i = true then 1 else 0) n
theorem gb_nat (x : Int64) (i : Nat) : (if gb x i = true then 1 else 0) = x.toBitVec.toNat / 2 ^ i % 2 := by
  have e : gb x i = decide (x.toBitVec.toNat / 2 ^ i % 2 = 1) := Nat.testBit_eq_decide_div_mod_eq
  rw [e]
  by_cases c : x.toBitVec.toNat / 2 ^ i % 2 = 1
  · rw [decide_eq_true c, if_pos rfl, c]
  · rw [decide_eq_false c, if_neg (by decide)]; omega
theorem ct_nat (x : Int64) : sp_ct (gb x) 64 = nd_b 8 x.toBitVec.toNat := sum_cong (fun j _ => gb_nat x j)
theorem ct_cong {q r : Nat → Bool} {n : Nat} (h : ∀ j, j < n → q j = r j) : sp_ct q n = sp_ct r n := sum_cong (fun j hj => by rw [h j hj])
theorem ct_zero {q : Nat → Bool} : ∀ n, (∀ j, j < n → q j = false) → sp_ct q n = 0
  | 0, _ => rfl
  | n + 1, h => by
    show sp_ct q n + (if q n = true then 1 else 0) = 0
    rw [ct_zero n (fun j hj => h j (by omega)), h n (by omega)]; rfl
theorem ct_cut {q : Nat → Bool} {K n : Nat} (hK : K ≤ n) (h : ∀ j, K ≤ j → j < n → q j = false) : sp_ct q n = sp_ct q K := by
  obtain ⟨d, rfl⟩ : ∃ d, n = K + d := ⟨n - K, by omega⟩
  have e : sp_ct q (K + d) = sp_ct q K + sp_ct (fun i => q (K + i)) d := sum_add K d
  rw [e, ct_zero d (fun j hj => h (K + j) (by omega) (by omega))]
  rfl
theorem ct_le (q : Nat → Bool) : ∀ n, sp_ct q n ≤ n
  | 0 => Nat.le_refl 0
  | n + 1 => by
    have := ct_le q n
    show sp_ct q n + (if q n = true then 1 else 0) ≤ n + 1
    split <;> omega
theorem ct_s1 {q : Nat → Bool} {n : Nat} (h : q n = true) : sp_ct q (n + 1) = sp_ct q n + 1 := by
  show sp_ct q n + (if q n = true then 1 else 0) = _
  rw [if_pos h]
theorem ct_s0 {q : Nat → Bool} {n : Nat} (h : q n = false) : sp_ct q (n + 1) = sp_ct q n := by
  show sp_ct q n + (if q n = true then 1 else 0) = _
  rw [h]; rfl
theorem ct_mono {q : Nat → Bool} {a : Nat} : ∀ b, a ≤ b → sp_ct q a ≤ sp_ct q b
  | 0, h => by rw [show a = 0 by omega]; exact Nat.le_refl _
  | b + 1, h => by
    rcases Nat.lt_or_ge a (b + 1) with c | c
    · have := ct_mono (q := q) (a := a) b (by omega)
      have e : sp_ct q (b + 1) = sp_ct q b + (if q b = true then 1 else 0) := rfl
      omega
    · rw [show a = b + 1 by omega]; exact Nat.le_refl _
