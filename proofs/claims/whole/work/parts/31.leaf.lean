/-! ===== leaves ===== -/
theorem in_nI {j n : Nat} (h : j < n) (hn : n < 2147483648) : fd_in (nI j) n = true := by
  unfold fd_in
  rw [nI_clamp (by omega)]
  simp only [Bool.and_eq_true, decide_eq_true_eq]
  exact ⟨nI_pos (by omega), h⟩
theorem at_in {k n j : Nat} {h : fd_H} (hj : j < n) (hn : n ≤ 1000) : fX3_at k n (nI j) h = some (h.1 (k + 1) j) := by
  unfold fX3_at
  rw [if_neg (nI_pos (by omega)), if_neg (show ¬ Int32.ofNat n ≤ nI j from nI_ge hj (by omega)), in_nI hj (by omega), nI_clamp (by omega)]
  rfl
theorem at_neg {k n : Nat} {h : fd_H} : fX3_at k n (-1) h = some 0 := rfl
theorem set_in {k n j : Nat} {v : Int32} {h : fd_H} (hj : j < n) (hn : n ≤ 1000) : fX3_set k n (nI j) v h = some (fd_ui h (k + 1) j v) := by
  unfold fX3_set
  rw [if_neg (nI_pos (by omega)), if_neg (show ¬ Int32.ofNat n ≤ nI j from nI_ge hj (by omega)), in_nI hj (by omega), nI_clamp (by omega)]
  rfl
theorem sat_in {k j : Nat} {h : fd_H} (hj : j < 8) : fX5_at k (nI j) h = some (h.2 (k + 1) j) := by
  unfold fX5_at
  rw [if_neg (nI_pos (by omega)), if_neg (show ¬ Int32.ofNat 8 ≤ nI j from nI_ge hj (by omega)), in_nI hj (by omega), nI_clamp (by omega)]
  rfl
theorem sset_in {k j : Nat} {v : Int64} {h : fd_H} (hj : j < 8) : fX5_set k (nI j) v h = some (fd_ul h (k + 1) j v) := by
  unfold fX5_set
  rw [if_neg (nI_pos (by omega)), if_neg (show ¬ Int32.ofNat 8 ≤ nI j from nI_ge hj (by omega)), in_nI hj (by omega), nI_clamp (by omega)]
  rfl
/-- an argument: below a bound, or not -/
theorem below_cases (a : Int32) {n : Nat} (hn : n < 2147483648) : (∃ j, j < n ∧ a = nI j) ∨ (a < 0 ∨ nI n ≤ a) := by
  rcases pk_ix a hn with h | h | ⟨j, h1, h2⟩
  · exact Or.inr (Or.inl h)
  · exact Or.inr (Or.inr h)
  · exact Or.inl ⟨j, h1, h2⟩
theorem below_y {j n : Nat} (h : j < n) (hn : n < 2147483648) : fX8_isBelow (nI j) (nI n) = some true := by
  unfold fX8_isBelow
  rw [if_neg (nI_pos (by omega)), if_neg (nI_ge h hn)]
theorem below_n {a : Int32} {n : Nat} (h : a < 0 ∨ nI n ≤ a) : fX8_isBelow a (nI n) = some false := by
  unfold fX8_isBelow
  rcases h with h | h
  · rw [if_pos h]
  · by_cases h0 : a < 0
    · rw [if_pos h0]
    · rw [if_neg h0, if_pos h]
theorem mbelow_y {j n : Nat} (h : j ≤ n) (hn : n < 2147483648) : fX9_in (nI j) 0 (nI n) = some true := by
  unfold fX9_in
  rw [if_neg (nI_pos (by omega)), if_neg (nI_nlt h (by omega))]
theorem mbelow_n {a : Int32} {n : Nat} (hn : n + 1 < 2147483648) (h : a < 0 ∨ nI (n + 1) ≤ a) : fX9_in a 0 (nI n) = some false := by
  unfold fX9_in
  rcases h with h | h
  · rw [if_pos h]
  · by_cases h0 : a < 0
    · rw [if_pos h0]
    · rw [if_neg h0, if_pos ?_]
      rw [Int32.lt_iff_toInt_lt, nI_toInt (by omega)]
      rw [Int32.le_iff_toInt_le, nI_toInt (by omega)] at h
      omega
theorem has_y {j P : Nat} {h : fd_H} (hP : h.1 12 3 = nI P) (hj : j < P) (hb : P < 2147483648) : fX2_has (nI j) h = some true := by
  unfold fX2_has
  rw [if_neg (nI_pos (by omega)), hP, if_neg (nI_ge hj hb)]
theorem has_n {a : Int32} {P : Nat} {h : fd_H} (hP : h.1 12 3 = nI P) (ha : a < 0 ∨ nI P ≤ a) : fX2_has a h = some false := by
  unfold fX2_has
  rw [hP]
  rcases ha with q | q
  · rw [if_pos q]
  · by_cases h0 : a < 0
    · rw [if_pos h0]
    · rw [if_neg h0, if_pos q]
theorem fact_in {h : fd_H} {d j : Nat} (hd : d < 9) (hj : j < 5) : fX0_fact (nI d) (nI j) h = some (h.1 50 (5 * d + j)) := by
  unfold fX0_fact
  have e : (5 : Int32) * nI d + nI j = nI (5 * d + j) := by
    rw [show (5 : Int32) = nI 5 from rfl, pk_mul, nI_add]
  rw [e, at_in (by omega) (by omega)]
  rfl
/-! bits of a long -/
def gb (x : Int64) (i : Nat) : Bool := x.toBitVec.getLsbD i
theorem gb_ext {x y : Int64} (h : ∀ i, i < 64 → gb x i = gb y i) : x = y := by
  apply Int64.toBitVec_inj.mp
  apply BitVec.eq_of_getLsbD_eq
  exact h
theorem gb_or (x y : Int64) (i : Nat) : gb (x ||| y) i = (gb x i || gb y i) := by
  unfold gb
  rw [show (x ||| y).toBitVec = x.toBitVec ||| y.toBitVec from rfl, BitVec.getLsbD_or]
theorem gb_and (x y : Int64) (i : Nat) : gb (x &&& y) i = (gb x i && gb y i) := by
  unfold gb
  rw [show (x &&& y).toBitVec = x.toBitVec &&& y.toBitVec from rfl, BitVec.getLsbD_and]
theorem gb_xor (x y : Int64) (i : Nat) : gb (x ^^^ y) i = (gb x i ^^ gb y i) := by
  unfold gb
  rw [show (x ^^^ y).toBitVec = x.toBitVec ^^^ y.toBitVec from rfl, BitVec.getLsbD_xor]
theorem gb_0 (i : Nat) : gb 0 i = false := by
  unfold gb
  rw [show (0 : Int64).toBitVec = 0#64 from rfl, BitVec.getLsbD_zero]
theorem gb_not (x : Int64) {i : Nat} (hi : i < 64) : gb (x ^^^ (-1 : Int64)) i = !gb x i := by
  rw [gb_xor]
  have : gb (-1 : Int64) i = true := by
    unfold gb
    rw [show (-1 : Int64).toBitVec = BitVec.allOnes 64 from rfl, BitVec.getLsbD_allOnes]
    simpa using hi
  rw [this, Bool.xor_true]
theorem gb_big {x : Int64} {i : Nat} (hi : 64 ≤ i) : gb x i = false := BitVec.getLsbD_of_ge _ _ hi
theorem sh1_tab : ∀ n, n < 64 → (fd_lshl 1 (nI n)).toBitVec = BitVec.twoPow 64 n := by decide +kernel
theorem gb_sh1 {n : Nat} (hn : n < 64) (i : Nat) : gb (fd_lshl 1 (nI n)) i = decide (i = n) := by
  unfold gb
  rw [sh1_tab n hn, BitVec.getLsbD_twoPow]
  by_cases e : n = i
  · subst e; simp [hn]
  · have e2 : ¬ i = n := fun q => e (by rw [q])
    simp [e, e2]
theorem below_tab : ∀ n, n < 64 → ∀ i, i < 64 → gb (fd_lshl 1 (nI n) - 1) i = decide (i < n) := by decide +kernel
theorem upto_tab : ∀ n, n < 62 → ∀ i, i < 64 → gb (fd_lshl 2 (nI n) - 1) i = decide (i < n + 1) := by decide +kernel
theorem gb_ne {x : Int64} : (¬ x = 0) ↔ ∃ i, i < 64 ∧ gb x i = true := by
  constructor
  · intro h
    apply Classical.byContradiction
    intro hn
    apply h
    apply gb_ext
    intro i hi
    rw [gb_0]
    cases hq : gb x i
    · rfl
    · exact absurd ⟨i, hi, hq⟩ hn
  · rintro ⟨i, hi, h⟩ e
    rw [e, gb_0] at h
    cases h
theorem lu_tab : ∀ n, n < 64 → ((nI n).toInt64.toUInt64 &&& Int64.toUInt64 63).toNat = n := by decide +kernel
theorem hasBit_eq {x : Int64} {n : Nat} (hn : n < 64) : fX8_hasBit x (nI n) = some (gb x n) := by
  unfold fX8_hasBit
  have e : (fd_lushr x (nI n) &&& 1 = 0) ↔ gb x n = false := ts_bit hn (by
    have := lu_tab n hn
    exact this)
  by_cases hq : gb x n = false
  · rw [if_pos ((lg_cmp_eq _ _).mpr (e.mpr hq)), hq]
  · rw [if_neg (fun q => hq (e.mp ((lg_cmp_eq _ _).mp q)))]
    cases h : gb x n
    · exact absurd h hq
    · rfl
