/-! ===== ask, in the class ===== -/
theorem up_eq {x : Int64} {q : Nat → Bool} {N n : Nat} (hn : n < 40) (hN : N ≤ 40) (hq : ∀ i, i < 64 → gb x i = (decide (i < N) && q i)) : (lg_cmp (x &&& (fd_lshl 2 (nI n) - 1)) 0 = 0) ↔ ¬ sp_first q N ≤ n := by
  have e := isBy_eq (h := fd_ul (fun _ _ => 0, fun _ _ => 0) 1 0 x) (k := 0) (p := 0) (n := n) (N := N) (q := q) (by omega) hn hN (fun i hi => by rw [show (0 + 1 : Nat) = 1 from rfl, ul_s]; exact hq i hi)
  unfold fX5_isBy fX8_bitsUpTo at e
  rw [sat_in (by omega), Option.bind_some, Option.bind_some, show (0 + 1 : Nat) = 1 from rfl, ul_s] at e
  by_cases c : lg_cmp (x &&& (fd_lshl 2 (nI n) - 1)) 0 = 0
  · rw [if_pos c] at e
    exact ⟨fun _ z => (by rw [decide_eq_true z] at e; exact Bool.noConfusion (Option.some.inj e)), fun _ => c⟩
  · rw [if_neg c] at e
    exact ⟨fun z => absurd z c, fun z => (by rw [decide_eq_false z] at e; exact Bool.noConfusion (Option.some.inj e))⟩
def sp_lh (ρ : fd_H) (x : Int32) (n p : Nat) (b : Bool) (w : Nat) : Nat := if (g32 x w && (decide (sp_fi ρ (sp_ww ρ n w) (sp_cl ρ) 8 p ≤ n) == b)) = true then 1 else 0
def sp_lw (ρ : fd_H) (x : Int32) (n p : Nat) : Nat := max (sp_sum (sp_lh ρ x n p true) 26) (sp_sum (sp_lh ρ x n p false) 26)
theorem lh_le (ρ : fd_H) (x : Int32) (n p : Nat) (b : Bool) : ∀ k, sp_sum (sp_lh ρ x n p b) k ≤ k
  | 0 => Nat.le_refl 0
  | k + 1 => by
    have := lh_le ρ x n p b k
    have h : sp_lh ρ x n p b k ≤ 1 := by unfold sp_lh; split <;> omega
    unfold sp_sum; omega
theorem left_c {h ρ : fd_H} {n p : Nat} (x : Int32) (hv : sp_V ρ) (c : CX h ρ) (hn : n < sp_N ρ) (hp : p < sp_P ρ) : fX8_leftAtWorst x (nI n) (nI p) h = some (nI (sp_lw ρ x n p)) := by
  have hN := N_le hv.1
  refine lp0 (F := fun f (v : Int32 × Int32) i => fX8_leftAtWorst_L9 x (nI n) (nI p) h f v.1 v.2 i) (fun i => (nI (sp_sum (sp_lh ρ x n p true) i), nI (sp_sum (sp_lh ρ x n p false) i))) 26 (by omega) ?_ ?_
  · intro f
    have l1 := lh_le ρ x n p true 26
    have l2 := lh_le ρ x n p false 26
    show fX8_leftAtWorst_L9 x (nI n) (nI p) h (f + 1) (nI (sp_sum (sp_lh ρ x n p true) 26)) (nI (sp_sum (sp_lh ρ x n p false) 26)) (nI 26) = _
    unfold sp_lw
    generalize sp_sum (sp_lh ρ x n p true) 26 = A at *
    generalize sp_sum (sp_lh ρ x n p false) 26 = B at *
    rw [fX8_leftAtWorst_L9]; dsimp only
    rw [if_pos (by decide), max_nI (by omega) (by omega)]
    by_cases q : A < B
    · rw [if_pos q, Nat.max_eq_right (Nat.le_of_lt q)]
    · rw [if_neg q, Nat.max_eq_left (by omega)]
  · intro f w hw
    obtain ⟨y, e1, e2⟩ := ifWarm_c hv c hp hn (by omega : w ≤ 25)
    have up := up_eq (n := n) (by omega) hN e2
    show fX8_leftAtWorst_L9 x (nI n) (nI p) h (f + 1) (nI (sp_sum (sp_lh ρ x n p true) w)) (nI (sp_sum (sp_lh ρ x n p false) w)) (nI w) = fX8_leftAtWorst_L9 x (nI n) (nI p) h f (nI (sp_sum (sp_lh ρ x n p true) w + sp_lh ρ x n p true w)) (nI (sp_sum (sp_lh ρ x n p false) w + sp_lh ρ x n p false w)) (nI (w + 1))
    generalize sp_sum (sp_lh ρ x n p true) w = A
    generalize sp_sum (sp_lh ρ x n p false) w = B
    rw [fX8_leftAtWorst_L9]; dsimp only
    unfold fX8_bitsUpTo sp_lh
    rw [show (26 : Int32) = nI 26 from rfl, if_neg (nI_ge hw (by omega)), hasBit_eq (by omega), sx_gb x (by omega), Option.bind_some, e1, Option.bind_some, Option.bind_some, nI_1, nI_1, nI_1]
    have up : (lg_cmp (y &&& (fd_lshl 2 (nI n) - 1)) 0 = 0) ↔ ¬ sp_fi ρ (sp_ww ρ n w) (sp_cl ρ) 8 p ≤ n := up
    cases g32 x w
    · rfl
    · rw [if_pos rfl]
      by_cases z : sp_fi ρ (sp_ww ρ n w) (sp_cl ρ) 8 p ≤ n
      · rw [if_neg (fun q => up.mp q z), decide_eq_true z]; rfl
      · rw [if_pos (up.mpr z), decide_eq_false z]; rfl
def sp_ak (ρ : fd_H) (x : Int32) (n : Nat) : Nat → Int32 × Int32
  | 0 => (-1, 0)
  | p + 1 => if (sp_ak ρ x n p).1 = -1 then (nI p, nI (sp_lw ρ x n p)) else if (sp_ak ρ x n p).2 ≤ nI (sp_lw ρ x n p) then sp_ak ρ x n p else (nI p, nI (sp_lw ρ x n p))
theorem ask_c {h ρ : fd_H} {n : Nat} (hv : sp_V ρ) (c : CX h ρ) (hn : n < sp_N ρ) : ∃ h', fX8_ask (nI n) h = some ((sp_ak ρ (sp_was ρ n) n (sp_P ρ)).1, h') ∧ CX h' ρ := by
  have hb := P_le hv.1
  have hN := N_le hv.1
  obtain ⟨h', e1, e2⟩ := was_c hv c hn
  refine ⟨h', ?_, e2⟩
  unfold fX8_ask
  rw [c.N.1, below_y hn (by omega), Option.bind_some, if_pos rfl, e1, Option.bind_some]
  refine lp0 (F := fun f (v : Int32 × Int32) i => fX8_ask_L31 (nI n) f (sp_was ρ n) v.1 v.2 i h') (fun i => sp_ak ρ (sp_was ρ n) n i) (sp_P ρ) (by omega) ?_ ?_
  · intro f
    show fX8_ask_L31 (nI n) (f + 1) (sp_was ρ n) (sp_ak ρ (sp_was ρ n) n (sp_P ρ)).1 (sp_ak ρ (sp_was ρ n) n (sp_P ρ)).2 (nI (sp_P ρ)) h' = _
    rw [fX8_ask_L31]; dsimp only
    rw [e2.P.1, if_pos (nI_le (Nat.le_refl _) (by omega))]
  · intro f i hi
    show fX8_ask_L31 (nI n) (f + 1) (sp_was ρ n) (sp_ak ρ (sp_was ρ n) n i).1 (sp_ak ρ (sp_was ρ n) n i).2 (nI i) h' = fX8_ask_L31 (nI n) f (sp_was ρ n) (if (sp_ak ρ (sp_was ρ n) n i).1 = -1 then (nI i, nI (sp_lw ρ (sp_was ρ n) n i)) else if (sp_ak ρ (sp_was ρ n) n i).2 ≤ nI (sp_lw ρ (sp_was ρ n) n i) then sp_ak ρ (sp_was ρ n) n i else (nI i, nI (sp_lw ρ (sp_was ρ n) n i))).1 (if (sp_ak ρ (sp_was ρ n) n i).1 = -1 then (nI i, nI (sp_lw ρ (sp_was ρ n) n i)) else if (sp_ak ρ (sp_was ρ n) n i).2 ≤ nI (sp_lw ρ (sp_was ρ n) n i) then sp_ak ρ (sp_was ρ n) n i else (nI i, nI (sp_lw ρ (sp_was ρ n) n i))).2 (nI (i + 1)) h'
    rw [fX8_ask_L31]; dsimp only
    unfold fX8_ask_L65
    rw [e2.P.1, if_neg (nI_ge hi (by omega)), left_c _ hv e2 hn hi, Option.bind_some, nI_1]
    by_cases c1 : (sp_ak ρ (sp_was ρ n) n i).1 = -1
    · rw [if_pos c1, if_pos c1]
    · rw [if_neg c1, if_neg c1]
      by_cases c2 : (sp_ak ρ (sp_was ρ n) n i).2 ≤ nI (sp_lw ρ (sp_was ρ n) n i)
      · rw [if_pos c2, if_pos c2]
      · rw [if_neg c2, if_neg c2]
