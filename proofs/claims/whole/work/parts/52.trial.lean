/-! ===== as it was seen ===== -/
def sp_sq (ρ : fd_H) (fi : Nat → Nat) (i : Nat) : Bool := (decide (sp_sp ρ i < sp_P ρ) && decide (fi (sp_sp ρ i) ≤ sp_sn ρ i)) != decide (sp_si ρ i = 1)
def sp_as (ρ : fd_H) (fi : Nat → Nat) : Bool := !sp_any (sp_sq ρ fi) (sp_sc ρ)
theorem srch_any {R : Type} {q : Nat → Bool} {x y : R} {n : Nat} : sp_srch q (fun _ => x) y n 0 = if sp_any q n = true then x else y := by
  by_cases c : sp_any q n = true
  · rw [if_pos c]
    obtain ⟨i, hi, hq⟩ := any_iff.mp c
    have hl : sp_fs q n < n := by
      rcases Nat.lt_or_ge (sp_fs q n) n with h | h
      · exact h
      · have := fs_no q n i (by omega)
        rw [hq] at this; cases this
    exact srch_at (fs_yes q n hl) n 0 (Nat.zero_le _) (by omega) (fun j _ hj => fs_no q n j hj)
  · rw [if_neg c]
    refine srch_no n 0 (fun j _ hj => ?_)
    cases e : q j
    · rfl
    · exact absurd (any_iff.mpr ⟨j, by omega, e⟩) c
theorem asSeen_c {h ρ : fd_H} {fi : Nat → Nat} {k : Nat} (hv : sp_V ρ) (hP : cx_P h ρ) (hS : cx_S h ρ) (hs : ∀ p n, p < sp_P ρ → n < 40 → fX5_isBy k (nI p) (nI n) h = some (decide (fi p ≤ n))) : fX8_isAsSeen k h = some (sp_as ρ fi) := by
  have hb := P_le hv.1
  obtain ⟨v1, v2, v3⟩ := hv.2.2.1
  have key := lpe (F := fun f (_ : Unit) i => fX8_isAsSeen_L2 k h f i) (fun _ => ()) (sp_sc ρ) (res := some true) (sp_sq ρ fi) (fun _ => some false)
    (by
      intro f
      show fX8_isAsSeen_L2 k h (f + 1) (nI (sp_sc ρ)) = _
      rw [fX8_isAsSeen_L2]; dsimp only
      rw [hS.1, if_pos (nI_le (Nat.le_refl _) (by omega))])
    (by
      intro f i hi
      obtain ⟨s1, s2, s3⟩ := hS.2 i hi
      obtain ⟨⟨-, w1⟩, ⟨-, w2⟩, -, w3⟩ := v3 i hi
      show fX8_isAsSeen_L2 k h (f + 1) (nI i) = if sp_sq ρ fi i = true then some false else fX8_isAsSeen_L2 k h f (nI (i + 1))
      rw [fX8_isAsSeen_L2]; dsimp only
      rw [hS.1, if_neg (nI_ge hi (by omega)), at_in (by omega) (by omega), at_in (by omega) (by omega)]
      show ((some (h.1 55 i)).bind fun r3 => _) = _
      rw [s2, Option.bind_some, Option.bind_some]
      have fin : ∀ b, fX8_isAsSeen_L60 k h (fX8_isAsSeen_L2 k h f) (nI i) b = if (b != decide (sp_si ρ i = 1)) = true then some false else fX8_isAsSeen_L2 k h f (nI (i + 1)) := by
        intro b
        unfold fX8_isAsSeen_L60 fX8_isAsSeen_L84
        rw [at_in (by omega) (by omega)]
        show ((some (h.1 57 i)).bind fun r2 => _) = _
        rw [s3, Option.bind_some, nI_1, show (1 : Int32) = nI 1 from rfl]
        by_cases q : sp_si ρ i = 1
        · rw [if_pos (by rw [q]), decide_eq_true q]
          cases b <;> rfl
        · rw [if_neg (nI_ne q (by omega) (by omega)), decide_eq_false q]
          cases b <;> rfl
      unfold fX8_isAsSeen_L59 sp_sq
      rw [fin, fin]
      by_cases c : sp_sp ρ i < sp_P ρ
      · rw [has_y hP.1 c (by omega), Option.bind_some, if_pos rfl]
        show ((fX5_isBy k (nI (sp_sp ρ i)) (h.1 53 i) h).bind fun r10 => _) = _
        rw [s1, hs _ _ c w1, Option.bind_some, decide_eq_true c, Bool.true_and]
        cases decide (fi (sp_sp ρ i) ≤ sp_sn ρ i) <;> rfl
      · rw [has_n hP.1 (Or.inr (nI_le (by omega) (by omega))), decide_eq_false c]
        rfl)
    (sp_sc ρ) 0 fd_fu (Nat.zero_add _) (by have := fu_ge; omega)
  have key : fX8_isAsSeen_L2 k h fd_fu (nI 0) = sp_srch (sp_sq ρ fi) (fun _ => some false) (some true) (sp_sc ρ) 0 := key
  unfold fX8_isAsSeen sp_as
  rw [show (0 : Int32) = nI 0 from rfl, key, srch_any]
  cases sp_any (sp_sq ρ fi) (sp_sc ρ) <;> rfl
theorem isSeen_m {m ρ : fd_H} {wf : Nat → Nat} {cf : Nat → Bool} {w : Nat} (hv : sp_V ρ) (hw : ∀ n, n < sp_N ρ → wf n ≤ 25) (h : mt m ρ wf cf w) : ∃ m', fX9_isSeen m = some (sp_as ρ (sp_fi ρ wf cf w), m') ∧ mt m' ρ wf cf w ∧ ∀ x y, x ≠ 88 → m'.1 x y = m.1 x y := by
  have hb := P_le hv.1
  obtain ⟨v1, v2, v3⟩ := hv.2.2.1
  obtain ⟨m2, e2, g1, g2, g3⟩ := lays_eq hv.1 hv.2.1 hw h
  refine ⟨m2, ?_, g1, g3⟩
  unfold fX9_isSeen
  rw [e2, Option.bind_some]
  refine lp0 (F := fun f v i => fX9_isSeen_L8 f v i m2) (fun i => !sp_any (sp_sq ρ (sp_fi ρ wf cf w)) i) (sp_sc ρ) (by omega) ?_ ?_
  · intro f
    show fX9_isSeen_L8 (f + 1) (!sp_any (sp_sq ρ (sp_fi ρ wf cf w)) (sp_sc ρ)) (nI (sp_sc ρ)) m2 = _
    rw [fX9_isSeen_L8]; dsimp only
    rw [raw_get g1.1 73 21 rfl, v1, if_pos (nI_le (Nat.le_refl _) (by omega))]
    rfl
  · intro f i hi
    obtain ⟨⟨u1, w1⟩, ⟨u2, w2⟩, u3, w3⟩ := v3 i hi
    show fX9_isSeen_L8 (f + 1) (!sp_any (sp_sq ρ (sp_fi ρ wf cf w)) i) (nI i) m2 = fX9_isSeen_L8 f (!(sp_any (sp_sq ρ (sp_fi ρ wf cf w)) i || sp_sq ρ (sp_fi ρ wf cf w) i)) (nI (i + 1)) m2
    rw [fX9_isSeen_L8]; dsimp only
    unfold fX9_isSeen_L51 fX9_isSeen_L58 fX9_isSeen_L59 sp_sq
    rw [raw_get g1.1 73 21 rfl, v1, if_neg (nI_ge hi (by omega)), in_nI (by omega) (by omega), fd_g, if_pos rfl, fd_g, if_pos rfl, nI_clamp (by omega), raw_get g1.1 90 i rfl, raw_get g1.1 91 i rfl, raw_get g1.1 92 i rfl, u1, u2, u3, had_m hb g1.2.1 g2 w2 w1, Option.bind_some, fd_g, if_pos rfl, nI_1, show (1 : Int32) = nI 1 from rfl]
    generalize sp_any (fun i => (decide (sp_sp ρ i < sp_P ρ) && decide (sp_fi ρ wf cf w (sp_sp ρ i) ≤ sp_sn ρ i)) != decide (sp_si ρ i = 1)) i = A
    by_cases q : sp_si ρ i = 1
    · rw [if_pos (show nI (sp_si ρ i) = nI 1 by rw [q]), decide_eq_true q]
      cases A <;> cases (decide (sp_sp ρ i < sp_P ρ) && decide (sp_fi ρ wf cf w (sp_sp ρ i) ≤ sp_sn ρ i)) <;> rfl
    · rw [if_neg (show ¬ nI (sp_si ρ i) = nI 1 from nI_ne q (by omega) (by omega)), decide_eq_false q]
      cases A <;> cases (decide (sp_sp ρ i < sp_P ρ) && decide (sp_fi ρ wf cf w (sp_sp ρ i) ≤ sp_sn ρ i)) <;> rfl
