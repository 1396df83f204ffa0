/-! ===== bits of ints ===== -/
def g32 (x : Int32) (i : Nat) : Bool := x.toBitVec.getLsbD i
theorem sx_gb (x : Int32) {i : Nat} (hi : i < 32) : gb x.toInt64 i = g32 x i := by
  unfold gb g32
  rw [Int32.toBitVec_toInt64, BitVec.getLsbD_signExtend, if_pos hi, decide_eq_true (by omega), Bool.true_and]
theorem sm_tab : ∀ w, w < 32 → ((nI w &&& 31).toBitVec.smod 32#32).toNat = w := by decide +kernel
theorem isIn_eq (x : Int32) {w : Nat} (hw : w < 32) : fX9_isIn x (nI w) = some (g32 x w) := by
  have e : ((x >>> (nI w &&& 31)) &&& (1 : Int32)) = if g32 x w = true then 1 else 0 := by
    apply Int32.toBitVec_inj.mp
    apply BitVec.eq_of_getLsbD_eq
    intro i hi
    rw [Int32.toBitVec_and, Int32.toBitVec_shiftRight, BitVec.getLsbD_and]
    show ((x.toBitVec.sshiftRight ((nI w &&& 31).toBitVec.smod 32#32).toNat).getLsbD i && (1#32).getLsbD i) = _
    rw [sm_tab w hw, BitVec.getLsbD_sshiftRight]
    by_cases q : i = 0
    · subst q
      unfold g32
      cases e : x.toBitVec.getLsbD w <;> simp [e] <;> omega
    · have : (1#32).getLsbD i = false := by simp [q]
      rw [this, Bool.and_false]
      cases g32 x w <;> simp [q]
  unfold fX9_isIn
  rw [e]
  cases g32 x w <;> rfl
