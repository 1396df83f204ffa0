/-! ===== was ===== -/
def sp_ww (ρ : fd_H) (n w k : Nat) : Nat := if k = n then w else sp_wm ρ k
theorem CX.trial {h h' ρ : fd_H} (c : CX h ρ) (e1 : h'.1 = h.1) (e2 : ∀ x y, x ≠ 59 → h'.2 x y = h.2 x y) : CX h' ρ := by
  have g : ∀ x y, h'.1 x y = h.1 x y := fun x y => by rw [e1]
  exact ⟨T_of c.T (fun x y _ _ => g x y), P_of c.P (fun x y _ => g x y), N_of c.N (fun x y _ => g x y), D_of c.D (fun x y _ => g x y), M_of c.M (fun x y _ => g x y), W_of c.W (fun x y _ => e2 x y (by omega)), S_of c.S (fun x y _ => g x y), H_of c.H (fun x y _ _ => g x y), (g 0 7).trans c.F⟩
theorem ifWarm_c {h ρ : fd_H} {p n w : Nat} (hv : sp_V ρ) (c : CX h ρ) (hp : p < sp_P ρ) (hn : n < sp_N ρ) (hw : w ≤ 25) : ∃ x, fX7_frostsIfWarm (nI p) (nI n) (nI w) h = some x ∧ ∀ i, i < 64 → gb x i = (decide (i < sp_N ρ) && sp_fr ρ (sp_ww ρ n w) (sp_cl ρ) 8 i p) := by
  have hb := P_le hv.1
  have hN := N_le hv.1
  obtain ⟨w0, w1⟩ := c.W
  have w1 := w1 p hp
  have main : ∀ y : Int64, (∀ i, i < 64 → gb y i = (decide (i = n) && (sp_cold ρ n p w && !(sp_cl ρ n || sp_sm ρ n p)))) → ∀ i, i < 64 → gb (((h.2 47 p &&& (fd_lshl 1 (nI n) ^^^ -1)) ||| (h.2 45 p &&& fd_lshl 1 (nI n))) ||| y) i = (decide (i < sp_N ρ) && sp_fr ρ (sp_ww ρ n w) (sp_cl ρ) 8 i p) := by
    intro y hy i hi
    obtain ⟨-, b2, b3⟩ := w1 i hi
    rw [gb_or, gb_or, gb_and, gb_and, gb_not _ hi, gb_sh1 (by omega), b2, b3, hy i hi]
    unfold sp_fr sp_ww
    by_cases q : i = n
    · subst q
      rw [decide_eq_true rfl, decide_eq_true hn, if_pos rfl]
      generalize sp_cold ρ i p (sp_wm ρ i) = A
      generalize sp_cold ρ i p w = B
      cases sp_ic ρ 8 i p <;> cases sp_cl ρ i <;> cases A <;> cases B <;> cases sp_sm ρ i p <;> rfl
    · rw [decide_eq_false q, if_neg q]
      cases decide (i < sp_N ρ) <;> cases sp_ic ρ 8 i p <;> cases sp_cl ρ i <;> cases sp_cold ρ i p (sp_wm ρ i) <;> cases sp_sm ρ i p <;> rfl
  unfold fX7_frostsIfWarm fX7_frostsIfWarm_L39
  rw [fd_lt, isCold_eq hv.2.1 c.M c.P hb hp (by omega) hw, Option.bind_some, sat_in (by omega), sat_in (by omega), sat_in (by omega)]
  cases e : sp_cold ρ n p w
  · rw [if_neg (by decide)]
    refine ⟨_, rfl, main 0 (fun i hi => ?_)⟩
    rw [gb_0, e, Bool.false_and, Bool.and_false]
  · rw [if_pos rfl]
    refine ⟨_, rfl, main _ (fun i hi => ?_)⟩
    have b1 := (w1 i hi).1
    rw [gb_and, gb_sh1 (by omega), gb_not _ hi, gb_or, w0 i hi, b1, e, Bool.true_and]
    by_cases q : i = n
    · rw [q]
    · rw [decide_eq_false q]; rfl
def sp_tr (h ρ : fd_H) (fi : Nat → Nat → Bool) : Prop := ∀ p, p < sp_P ρ → ∀ i, i < 64 → gb (h.2 59 p) i = (decide (i < sp_N ρ) && fi i p)
theorem tr_by {h ρ : fd_H} {q : Nat → Nat → Bool} (hv : sp_V1 ρ) (t : sp_tr h ρ q) : ∀ p n, p < sp_P ρ → n < 40 → fX5_isBy 58 (nI p) (nI n) h = some (decide (sp_first (fun i => q i p) (sp_N ρ) ≤ n)) := fun p n hp hn => by
  have hb := P_le hv
  exact isBy_eq (k := 58) (by omega) hn (N_le hv) (t p hp)
def sp_was (ρ : fd_H) (n : Nat) : Int32 := sp_or (fun w => sp_as ρ (sp_fi ρ (sp_ww ρ n w) (sp_cl ρ) 8)) 26
theorem was_in {ρ : fd_H} {n w : Nat} (hv : sp_V ρ) (hn : n < sp_N ρ) (hw : w ≤ 25) (K : Int32 → Int32 → fd_H → Option (Int32 × fd_H)) (v : Int32) : ∀ d p f h, p + d = sp_P ρ → d < f → CX h ρ → (∀ q, q < p → ∀ i, i < 64 → gb (h.2 59 q) i = (decide (i < sp_N ρ) && sp_fr ρ (sp_ww ρ n w) (sp_cl ρ) 8 i q)) → ∃ h', CX h' ρ ∧ fX8_was_L30 (nI n) K f v (nI w) (nI p) h = K (if sp_as ρ (sp_fi ρ (sp_ww ρ n w) (sp_cl ρ) 8) = true then v ||| ((1 : Int32) <<< (nI w &&& 31)) else v) (nI (w + 1)) h' := by
  have hb := P_le hv.1
  intro d
  induction d with
  | zero =>
    intro p f h hd hf c ht
    obtain ⟨f, rfl⟩ : ∃ k, f = k + 1 := ⟨f - 1, by omega⟩
    refine ⟨h, c, ?_⟩
    rw [fX8_was_L30]; dsimp only
    rw [c.P.1, if_pos (nI_le (by omega) (by omega)), asSeen_c hv c.P c.S (tr_by hv.1 (fun p hp => ht p (by omega))), Option.bind_some, fd_lt, nI_1]
    show (if sp_as ρ (sp_fi ρ (sp_ww ρ n w) (sp_cl ρ) 8) = true then _ else _) = _
    cases sp_as ρ (sp_fi ρ (sp_ww ρ n w) (sp_cl ρ) 8) <;> rfl
  | succ d ih =>
    intro p f h hd hf c ht
    obtain ⟨f, rfl⟩ : ∃ k, f = k + 1 := ⟨f - 1, by omega⟩
    obtain ⟨x, e1, e2⟩ := ifWarm_c hv c (by omega : p < sp_P ρ) hn hw
    obtain ⟨h', g1, g2⟩ := ih (p + 1) f (fd_ul h 59 p x) (by omega) (by omega) (c.trial rfl (fun x y a => ul_g (by omega))) (fun q hq i hi => by
      by_cases z : q = p
      · rw [z, ul_s]; exact e2 i hi
      · rw [ul_g (by omega)]; exact ht q (by omega) i hi)
    refine ⟨h', g1, ?_⟩
    rw [fX8_was_L30]; dsimp only
    rw [c.P.1, if_neg (nI_ge (by omega) (by omega)), e1, Option.bind_some, sset_in (by omega), Option.bind_some, nI_1]
    exact g2
theorem was_c {h ρ : fd_H} {n : Nat} (hv : sp_V ρ) (c : CX h ρ) (hn : n < sp_N ρ) : ∃ h', fX8_was (nI n) h = some (sp_was ρ n, h') ∧ CX h' ρ := by
  have hb := P_le hv.1
  have hN := N_le hv.1
  unfold fX8_was
  rw [c.N.1, below_y hn (by omega), Option.bind_some, if_pos rfl]
  refine lpi0 (F := fun f (a : Int32 × fd_H) i => fX8_was_L21 (nI n) f a.1 i a.2) (fun i a => a.1 = sp_or (fun w => sp_as ρ (sp_fi ρ (sp_ww ρ n w) (sp_cl ρ) 8)) i ∧ CX a.2 ρ) 26 (by omega) (post := fun o => ∃ h', o = some (sp_was ρ n, h') ∧ CX h' ρ) (a := (0, h)) ⟨rfl, c⟩ ?_ ?_
  · intro f a ⟨a1, a2⟩
    refine ⟨a.2, ?_, a2⟩
    show fX8_was_L21 (nI n) (f + 1) a.1 (nI 26) a.2 = _
    rw [fX8_was_L21]; dsimp only
    rw [if_pos (by decide), a1]; rfl
  · intro f i a hi ⟨a1, a2⟩
    obtain ⟨h', g1, g2⟩ := was_in hv hn (by omega : i ≤ 25) (fX8_was_L21 (nI n) f) a.1 (sp_P ρ) 0 fd_fu a.2 (Nat.zero_add _) (by have := fu_ge; omega) a2 (fun q hq => absurd hq (Nat.not_lt_zero q))
    refine ⟨(if sp_as ρ (sp_fi ρ (sp_ww ρ n i) (sp_cl ρ) 8) = true then a.1 ||| ((1 : Int32) <<< (nI i &&& 31)) else a.1, h'), ⟨?_, g1⟩, ?_⟩
    · show (if _ then _ else _) = sp_or (fun w => sp_as ρ (sp_fi ρ (sp_ww ρ n w) (sp_cl ρ) 8)) (i + 1)
      rw [a1]; rfl
    · show fX8_was_L21 (nI n) (f + 1) a.1 (nI i) a.2 = fX8_was_L21 (nI n) f _ (nI (i + 1)) h'
      rw [fX8_was_L21]; dsimp only
      rw [show (26 : Int32) = nI 26 from rfl, if_neg (nI_ge hi (by omega))]
      exact g2
