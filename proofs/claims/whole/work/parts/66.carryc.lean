/-! ===== ice to be carried, in the class ===== -/
def sp_sd1 (ρ : fd_H) (a n i d : Nat) : Bool := decide (sp_f ρ d 0 = a) && sp_st ρ (sp_f0 ρ) d (sp_f ρ d 3) n && decide (sp_f ρ d 3 = i)
def sp_cs (ρ : fd_H) (a n i : Nat) : Bool := sp_any (sp_sd1 ρ a n i) (sp_D ρ)
def sp_cw (ρ : fd_H) (a n : Nat) (c : Int32) : Int32 := if 3 < sp_ct (sp_cs ρ a n) 8 then -1 else sp_ci (sp_cs ρ a n) 8 c
theorem cs_iff {ρ : fd_H} {a n i : Nat} : sp_cs ρ a n i = true ↔ ∃ d, d < sp_D ρ ∧ sp_f ρ d 0 = a ∧ sp_st ρ (sp_f0 ρ) d (sp_f ρ d 3) n = true ∧ sp_f ρ d 3 = i := by
  unfold sp_cs
  rw [any_iff]
  constructor
  · rintro ⟨d, h1, h2⟩
    unfold sp_sd1 at h2
    simp only [Bool.and_eq_true, decide_eq_true_eq] at h2
    exact ⟨d, h1, h2.1.1, h2.1.2, h2.2⟩
  · rintro ⟨d, h1, h2, h3, h4⟩
    refine ⟨d, h1, ?_⟩
    unfold sp_sd1
    rw [decide_eq_true h2, h3, decide_eq_true h4]; rfl
theorem cs_8 {ρ : fd_H} {a n i : Nat} (h : sp_cs ρ a n i = true) : i < 8 := by
  obtain ⟨d, h1, h2, h3, h4⟩ := cs_iff.mp h
  have := f3_le h1
  omega
theorem carry_c {h ρ : fd_H} {a n : Nat} {c : Int32} (hv : sp_V ρ) (cx : CX h ρ) (ha : a < 6) (hn : n < sp_N ρ) (hc : c = -1 ∨ ∃ j, j < 3 ∧ c = nI j) : fX8_carry (nI a) (nI n) c h = some (sp_cw ρ a n c) := by
  have hN := N_le hv.1
  have hDb := D_le hv.1
  have hc2 : c = -1 ∨ ∃ j, j < 40 ∧ c = nI j := hc.imp_right (fun ⟨j, h1, h2⟩ => ⟨j, by omega, h2⟩)
  unfold fX8_carry
  rw [show (6 : Int32) = nI 6 from rfl, below_y ha (by omega), Option.bind_some, if_pos rfl, cx.N.1, below_y hn (by omega), Option.bind_some, if_pos rfl, show (3 : Int32) = nI (2 + 1) from rfl, (choice_y (n := 2) (by omega) hc).1, Option.bind_some, if_pos rfl]
  refine lpi0 (F := fun f (v : Int64) i => fX8_carry_L43 (nI a) (nI n) c h f v i) (fun m x => ∀ i, i < 64 → gb x i = sp_any (sp_sd1 ρ a n i) m) (sp_D ρ) (by omega) (post := fun r => r = some (sp_cw ρ a n c)) ?_ ?_ ?_
  · intro i hi; rw [gb_0]; rfl
  · intro f x hx
    have hx2 : ∀ i, i < 64 → gb x i = (decide (i < 8) && sp_cs ρ a n i) := by
      intro i hi
      rw [hx i hi]
      show sp_cs ρ a n i = _
      cases z : sp_cs ρ a n i
      · rw [Bool.and_false]
      · rw [decide_eq_true (cs_8 z)]; rfl
    have l := ct_le (sp_cs ρ a n) 8
    show fX8_carry_L43 (nI a) (nI n) c h (f + 1) x (nI (sp_D ρ)) = _
    rw [fX8_carry_L43]; dsimp only
    rw [cx.D.1, if_pos (nI_le (Nat.le_refl _) (by omega)), bitCount_ct (by omega) hx2, Option.bind_some, countOrItem_eq (by omega) hc2 hx2, Option.bind_some, show (3 : Int32) = nI 3 from rfl]
    unfold sp_cw
    by_cases z : 3 < sp_ct (sp_cs ρ a n) 8
    · rw [if_pos z, if_pos (nI_lt z (by omega))]
    · rw [if_neg z, if_neg (nI_nlt (by omega) (by omega))]
  · intro f d x hd hx
    have b0 := f0_le hd
    have b3 := f3_le hd
    refine ⟨if sp_f ρ d 0 = a ∧ sp_st ρ (sp_f0 ρ) d (sp_f ρ d 3) n = true then x ||| fd_lshl 1 (nI (sp_f ρ d 3)) else x, ?_, ?_⟩
    · intro i hi
      show _ = (sp_any (sp_sd1 ρ a n i) d || sp_sd1 ρ a n i d)
      rw [← hx i hi]
      unfold sp_sd1
      by_cases e : sp_f ρ d 0 = a ∧ sp_st ρ (sp_f0 ρ) d (sp_f ρ d 3) n = true
      · rw [if_pos e, gb_or, gb_sh1 (by omega), decide_eq_true e.1, e.2, Bool.true_and, Bool.true_and]
        congr 1
        exact decide_eq_decide.mpr ⟨fun q => q.symm, fun q => q.symm⟩
      · rw [if_neg e]
        by_cases e1 : sp_f ρ d 0 = a
        · have e2 : sp_st ρ (sp_f0 ρ) d (sp_f ρ d 3) n = false := by
            cases z : sp_st ρ (sp_f0 ρ) d (sp_f ρ d 3) n
            · rfl
            · exact absurd ⟨e1, z⟩ e
          rw [e2, Bool.and_false, Bool.false_and, Bool.or_false]
        · rw [decide_eq_false e1, Bool.false_and, Bool.false_and, Bool.or_false]
    · show fX8_carry_L43 (nI a) (nI n) c h (f + 1) x (nI d) = fX8_carry_L43 (nI a) (nI n) c h f _ (nI (d + 1))
      rw [fX8_carry_L43]; dsimp only
      rw [cx.D.1, if_neg (nI_ge hd (by omega)), show (0 : Int32) = nI 0 from rfl, factC hv.1 cx.D hd (by omega), Option.bind_some, show (3 : Int32) = nI 3 from rfl, factC hv.1 cx.D hd (by omega), Option.bind_some, stand_c hv.1 cx.P cx.D (fun p n hp hn => cx.by hv.1 hp hn) hd (by omega), Option.bind_some, fd_lt, nI_1]
      by_cases e : sp_f ρ d 0 = a
      · rw [if_pos (by rw [e])]
        cases e2 : sp_st ρ (sp_f0 ρ) d (sp_f ρ d 3) n
        · rw [if_neg (by decide), if_neg (fun q => Bool.noConfusion q.2)]
        · rw [if_pos rfl, if_pos ⟨e, rfl⟩]
      · rw [if_neg (nI_ne e (by omega) (by omega)), if_neg (fun q => e q.1)]
