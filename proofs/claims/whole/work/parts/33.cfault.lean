/-! ===== the class's faultOf ===== -/
theorem irem_nI {a d : Nat} (ha : a < 2147483648) (h0 : 0 < d) (hd : d < 2147483648) : fd_irem (nI a) (nI d) = nI (a % d) := pk_rem ha h0 hd
theorem nI_ne {a b : Nat} (h : a ≠ b) (ha : a < 2147483648) (hb : b < 2147483648) : ¬ nI a = nI b := fun q => h ((nI_eq ha hb).mp q)
theorem eq_lit {b c : Nat} (hb : b < 2147483648) (hc : c < 2147483648) : (nI b = nI c) ↔ b = c := nI_eq hb hc
theorem figure_eq {b c : Nat} (hb : b < 256) (hc : c < 256) : fX8_isFigure (nI b) (nI c) = some (sp_dig b c) := by
  unfold fX8_isFigure sp_dig
  rw [show (48 : Int32) = nI 48 from rfl, nI_add]
  by_cases h1 : b < 48
  · rw [if_pos (nI_lt h1 (by omega)), decide_eq_false (by omega)]; rfl
  · rw [if_neg (nI_nlt (by omega) (by omega)), decide_eq_true (by omega : 48 ≤ b)]
    by_cases h2 : 48 + c < b
    · rw [if_pos (nI_lt h2 (by omega)), decide_eq_false (by omega)]; rfl
    · rw [if_neg (nI_nlt (by omega) (by omega)), decide_eq_true (by omega)]; rfl
theorem kind_eq {b : Nat} (hb : b < 256) : fX8_kindOf (nI b) = some (if b = 104 then 1 else if b = 111 then 0 else if b = 115 then 3 else if b = 119 then 2 else -1) := by
  unfold fX8_kindOf
  simp only [show (104 : Int32) = nI 104 from rfl, show (111 : Int32) = nI 111 from rfl, show (115 : Int32) = nI 115 from rfl, show (119 : Int32) = nI 119 from rfl, eq_lit (show b < 2147483648 by omega) (show 104 < 2147483648 by omega), eq_lit (show b < 2147483648 by omega) (show 111 < 2147483648 by omega), eq_lit (show b < 2147483648 by omega) (show 115 < 2147483648 by omega), eq_lit (show b < 2147483648 by omega) (show 119 < 2147483648 by omega)]
  repeat' split
  all_goals rfl
theorem fitsPlace_eq {a b : Nat} (ha : a < 3) (hb : b < 256) : fX8_fitsPlace (nI a) (nI b) = some (sp_fitP a b) := by
  unfold fX8_fitsPlace sp_fitP
  rcases (show a = 0 ∨ a = 1 ∨ a = 2 by omega) with rfl | rfl | rfl
  · simp (decide := true) only [↓reduceIte]
    rw [show (9 : Int32) = nI 9 from rfl, figure_eq hb (by omega)]; rfl
  · simp (decide := true) only [↓reduceIte]
    rw [kind_eq hb]
    show (if (if b = 104 then (1 : Int32) else if b = 111 then 0 else if b = 115 then 3 else if b = 119 then 2 else -1) = -1 then some false else some true) = _
    by_cases h1 : b = 104
    · subst h1; rfl
    · by_cases h2 : b = 111
      · subst h2; rfl
      · by_cases h3 : b = 115
        · subst h3; rfl
        · by_cases h4 : b = 119
          · subst h4; rfl
          · rw [if_neg h1, if_neg h2, if_neg h3, if_neg h4, if_pos rfl, decide_eq_false (by omega)]
  · simp (decide := true) only [↓reduceIte]
    rw [show (59 : Int32) = nI 59 from rfl]
    by_cases h : b = 59
    · subst h; rfl
    · rw [if_neg (nI_ne h (by omega) (by omega)), decide_eq_false h]
theorem fitsDebt_eq {a b c : Nat} (ha : a < 8) (hb : b < 256) (hc : c < 256) : fX8_fitsDebt (nI a) (nI b) (nI c) = some (sp_fitD a b c) := by
  have let2 : (if nI b < 97 then some false else if (102 : Int32) < nI b then some false else some true) = some (decide (97 ≤ b) && decide (b ≤ 102)) := by
    rw [show (97 : Int32) = nI 97 from rfl, show (102 : Int32) = nI 102 from rfl]
    by_cases h1 : b < 97
    · rw [if_pos (nI_lt h1 (by omega)), decide_eq_false (by omega)]; rfl
    · rw [if_neg (nI_nlt (by omega) (by omega)), decide_eq_true (by omega : 97 ≤ b)]
      by_cases h2 : 102 < b
      · rw [if_pos (nI_lt h2 (by omega)), decide_eq_false (by omega)]; rfl
      · rw [if_neg (nI_nlt (by omega) (by omega)), decide_eq_true (by omega)]; rfl
  unfold fX8_fitsDebt sp_fitD
  rcases (show a = 0 ∨ a = 1 ∨ a = 2 ∨ a = 3 ∨ a = 4 ∨ a = 5 ∨ a = 6 ∨ a = 7 by omega) with rfl | rfl | rfl | rfl | rfl | rfl | rfl | rfl
  · simp (decide := true) only [↓reduceIte]
    exact let2
  · simp (decide := true) only [↓reduceIte]
    exact let2
  · simp (decide := true) only [↓reduceIte]
    rw [show (9 : Int32) = nI 9 from rfl, figure_eq hb (by omega)]; rfl
  · simp (decide := true) only [↓reduceIte]
    rw [show (9 : Int32) = nI 9 from rfl, figure_eq hb (by omega)]
    show (if sp_dig b 9 = true then (if nI c = 48 then (if nI b = 48 then some false else some true) else some true) else some false) = some (sp_dig b 9 && !(decide (c = 48) && decide (b = 48)))
    rw [show (48 : Int32) = nI 48 from rfl]
    cases sp_dig b 9
    · rfl
    · by_cases h1 : c = 48
      · subst h1
        by_cases h2 : b = 48
        · subst h2; rfl
        · rw [if_pos rfl, if_pos rfl, if_neg (nI_ne h2 (by omega) (by omega)), decide_eq_false h2]; rfl
      · rw [if_pos rfl, if_neg (nI_ne h1 (by omega) (by omega)), decide_eq_false h1]; rfl
  · simp (decide := true) only [↓reduceIte]
    rw [show (7 : Int32) = nI 7 from rfl, figure_eq hb (by omega)]; rfl
  · simp (decide := true) only [↓reduceIte]
    rw [show (3 : Int32) = nI 3 from rfl, figure_eq hb (by omega)]; rfl
  · simp (decide := true) only [↓reduceIte]
    rw [show (9 : Int32) = nI 9 from rfl, figure_eq hb (by omega)]; rfl
  · simp (decide := true) only [↓reduceIte]
    rw [show (59 : Int32) = nI 59 from rfl]
    by_cases h : b = 59
    · subst h; rfl
    · rw [if_neg (nI_ne h (by omega) (by omega)), decide_eq_false h]
/-- the class holds the texts of ρ -/
def cx_T (h ρ : fd_H) : Prop := ∀ t, t < 3 → h.1 (2 + 3 * t) 1 = nI (sp_cp t) ∧ h.1 (2 + 3 * t) 2 = nI (sp_tl ρ t) ∧ ∀ i, i < sp_tl ρ t → h.1 (4 + 3 * t) i = nI (sp_by ρ t i)
theorem cp_le (t : Nat) : sp_cp t ≤ 71 := by unfold sp_cp; repeat' split
                                             all_goals omega
theorem fits_eq {h ρ : fd_H} {t i : Nat} (hv : sp_V1 ρ) (hT : cx_T h ρ) (ht : t < 3) (hi : i < sp_tl ρ t) : fX8_fits (nI t) (2 + 3 * t) (sp_cp t) (nI i) h = some (sp_fit ρ t i) := by
  obtain ⟨v1, v2, v3⟩ := hv t ht
  obtain ⟨c1, c2, c3⟩ := hT t ht
  have hc := cp_le t
  have hb := (v3 i hi).2
  unfold fX8_fits sp_fit
  rw [at_in (by omega) (by omega), show 2 + 3 * t + 1 + 1 = 4 + 3 * t by omega, c3 i hi, Option.bind_some]
  rcases (show t = 0 ∨ t = 1 ∨ t = 2 by omega) with rfl | rfl | rfl
  · simp (decide := true) only [↓reduceIte]
    rw [show (3 : Int32) = nI 3 from rfl, irem_nI (by omega) (by omega) (by omega), fitsPlace_eq (by omega) hb]
    rfl
  · simp (decide := true) only [↓reduceIte]
    rw [show (97 : Int32) = nI 97 from rfl, show (122 : Int32) = nI 122 from rfl]
    by_cases h1 : sp_by ρ 1 i < 97
    · rw [if_pos (nI_lt h1 (by omega)), decide_eq_false (by omega)]; rfl
    · rw [if_neg (nI_nlt (by omega) (by omega)), decide_eq_true (by omega : 97 ≤ sp_by ρ 1 i)]
      by_cases h2 : 122 < sp_by ρ 1 i
      · rw [if_pos (nI_lt h2 (by omega)), decide_eq_false (by omega)]; rfl
      · rw [if_neg (nI_nlt (by omega) (by omega)), decide_eq_true (by omega)]; rfl
  · simp (decide := true) only [↓reduceIte]
    rw [show (8 : Int32) = nI 8 from rfl, irem_nI (by omega) (by omega) (by omega)]
    by_cases h0 : i = 0
    · subst h0
      rw [show nI 0 - 1 = -1 from rfl, at_neg, Option.bind_some, show (0 : Int32) = nI 0 from rfl, fitsDebt_eq (by omega) hb (by omega), if_pos rfl]
      rfl
    · rw [show nI i - 1 = nI (i - 1) from pk_sub (b := 1) (by omega), at_in (by omega) (by omega), show 2 + 3 * 2 + 1 + 1 = 4 + 3 * 2 from rfl, c3 (i - 1) (by omega), Option.bind_some, fitsDebt_eq (by omega) hb (v3 (i - 1) (by omega)).2, if_neg h0]
      rfl
theorem ended_eq {t L : Nat} (ht : t < 3) (hL : L ≤ 71) : fX8_isEnded (nI t) (nI L) = some (sp_end t L) := by
  unfold fX8_isEnded sp_end
  by_cases h0 : L = 0
  · subst h0; rfl
  · rw [if_neg (nI_ne0 (by omega) (by omega)), decide_eq_false h0]
    rcases (show t = 0 ∨ t = 1 ∨ t = 2 by omega) with rfl | rfl | rfl
    · simp (decide := true) only [↓reduceIte]
      rw [show (3 : Int32) = nI 3 from rfl, irem_nI (by omega) (by omega) (by omega), show (2 : Int32) = nI 2 from rfl]
      by_cases h : L % 3 = 2
      · rw [if_pos (by rw [h]), decide_eq_true h]; rfl
      · rw [if_neg (nI_ne h (by omega) (by omega)), decide_eq_false h]; rfl
    · rfl
    · simp (decide := true) only [↓reduceIte]
      rw [show (8 : Int32) = nI 8 from rfl, irem_nI (by omega) (by omega) (by omega), show (7 : Int32) = nI 7 from rfl]
      by_cases h : L % 8 = 7
      · rw [if_pos (by rw [h]), decide_eq_true h]; rfl
      · rw [if_neg (nI_ne h (by omega) (by omega)), decide_eq_false h]; rfl
theorem fault_c {h ρ : fd_H} {t : Nat} (hv : sp_V1 ρ) (hT : cx_T h ρ) (ht : t < 3) : fX8_faultOf (nI t) (2 + 3 * t) (sp_cp t) h = some (sp_fault ρ t) := by
  have c2 := (hT t ht).2.1
  have v2 := (hv t ht).2.1
  have hc := cp_le t
  have hb := fs_le (fun i => !sp_fit ρ t i) (sp_tl ρ t)
  unfold fX8_faultOf
  have key := lpe (F := fun n (_ : Unit) i => fX8_faultOf_L2 (nI t) (2 + 3 * t) (sp_cp t) h n i) (fun _ => ()) (sp_tl ρ t) (res := if sp_end t (sp_tl ρ t) = true then some (-1) else some (nI (sp_tl ρ t))) (fun i => !sp_fit ρ t i) (fun i => some (nI i))
    (by
      intro n
      show fX8_faultOf_L2 (nI t) (2 + 3 * t) (sp_cp t) h (n + 1) (nI (sp_tl ρ t)) = _
      rw [fX8_faultOf_L2]; dsimp only
      rw [c2, if_pos (nI_le (Nat.le_refl _) (by omega)), ended_eq ht (by omega), Option.bind_some])
    (by
      intro n i hi
      show fX8_faultOf_L2 (nI t) (2 + 3 * t) (sp_cp t) h (n + 1) (nI i) = _
      rw [fX8_faultOf_L2]; dsimp only
      rw [c2, if_neg (nI_ge hi (by omega)), fits_eq hv hT ht hi, Option.bind_some, nI_1]
      cases sp_fit ρ t i <;> rfl)
    (sp_tl ρ t) 0 fd_fu (by omega) (by have := fu_ge; omega)
  have key : fX8_faultOf_L2 (nI t) (2 + 3 * t) (sp_cp t) h fd_fu 0 = _ := key
  rw [key]
  unfold sp_fault sp_well
  by_cases hbad : sp_bad ρ t = sp_tl ρ t
  · rw [srch_no _ _ (fun j _ hj => fs_no (fun i => !sp_fit ρ t i) (sp_tl ρ t) j (by unfold sp_bad at hbad; omega)), decide_eq_true hbad, hbad]
    cases sp_end t (sp_tl ρ t) <;> rfl
  · rw [decide_eq_false hbad]
    have hlt : sp_bad ρ t < sp_tl ρ t := by unfold sp_bad at hbad ⊢; omega
    rw [srch_at (k := sp_bad ρ t) (fs_yes (fun i => !sp_fit ρ t i) (sp_tl ρ t) hlt) _ _ (Nat.zero_le _) (by omega) (fun j _ hj => fs_no (fun i => !sp_fit ρ t i) (sp_tl ρ t) j hj)]
    rfl
