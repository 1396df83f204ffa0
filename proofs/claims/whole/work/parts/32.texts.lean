/-! ===== what a well text tells ===== -/
theorem well_fit {ρ : fd_H} {t i : Nat} (hw : sp_well ρ t = true) (hi : i < sp_tl ρ t) : sp_fit ρ t i = true := by
  unfold sp_well at hw
  simp only [Bool.and_eq_true, decide_eq_true_eq] at hw
  have h := fs_no (fun i => !sp_fit ρ t i) (sp_tl ρ t) i (by
    have := hw.1
    unfold sp_bad at this
    omega)
  simpa using h
theorem P_in {ρ : fd_H} {p : Nat} (hp : p < sp_P ρ) : sp_well ρ 0 = true ∧ 3 * p + 1 < sp_tl ρ 0 := by
  unfold sp_P at hp
  by_cases hw : sp_well ρ 0 = true
  · rw [if_pos hw] at hp
    exact ⟨hw, by omega⟩
  · rw [if_neg hw] at hp; omega
theorem N_in {ρ : fd_H} {n : Nat} (hn : n < sp_N ρ) : sp_well ρ 1 = true ∧ n < sp_tl ρ 1 := by
  unfold sp_N at hn
  by_cases hw : sp_well ρ 1 = true
  · rw [if_pos hw] at hn
    exact ⟨hw, hn⟩
  · rw [if_neg hw] at hn; omega
theorem D_in {ρ : fd_H} {d : Nat} (hd : d < sp_D ρ) : sp_well ρ 2 = true ∧ 8 * d + 6 < sp_tl ρ 2 := by
  unfold sp_D at hd
  by_cases hw : sp_well ρ 2 = true
  · rw [if_pos hw] at hd
    exact ⟨hw, by omega⟩
  · rw [if_neg hw] at hd; omega
theorem P_le {ρ : fd_H} (hv : sp_V1 ρ) : sp_P ρ ≤ 8 := by
  have h := (hv 0 (by omega)).2.1
  have h : sp_tl ρ 0 ≤ 23 := h
  unfold sp_P
  by_cases hw : sp_well ρ 0 = true
  · rw [if_pos hw]; omega
  · rw [if_neg hw]; omega
theorem N_le {ρ : fd_H} (hv : sp_V1 ρ) : sp_N ρ ≤ 40 := by
  have h := (hv 1 (by omega)).2.1
  have h : sp_tl ρ 1 ≤ 40 := h
  unfold sp_N
  by_cases hw : sp_well ρ 1 = true
  · rw [if_pos hw]; omega
  · rw [if_neg hw]; omega
theorem D_le {ρ : fd_H} (hv : sp_V1 ρ) : sp_D ρ ≤ 9 := by
  have h := (hv 2 (by omega)).2.1
  have h : sp_tl ρ 2 ≤ 71 := h
  unfold sp_D
  by_cases hw : sp_well ρ 2 = true
  · rw [if_pos hw]; omega
  · rw [if_neg hw]; omega
theorem dig_iff {b c : Nat} : sp_dig b c = true ↔ 48 ≤ b ∧ b ≤ 48 + c := by
  unfold sp_dig
  simp only [Bool.and_eq_true, decide_eq_true_eq]
theorem ht_rng {ρ : fd_H} {p : Nat} (hp : p < sp_P ρ) : 48 ≤ sp_by ρ 0 (3 * p) ∧ sp_by ρ 0 (3 * p) ≤ 57 := by
  obtain ⟨hw, hl⟩ := P_in hp
  have h := well_fit hw (i := 3 * p) (by omega)
  unfold sp_fit sp_fitP at h
  rw [if_pos rfl, show 3 * p % 3 = 0 by omega, if_pos rfl] at h
  have := dig_iff.mp h
  omega
theorem kd_rng {ρ : fd_H} {p : Nat} (hp : p < sp_P ρ) : sp_by ρ 0 (3 * p + 1) = 104 ∨ sp_by ρ 0 (3 * p + 1) = 111 ∨ sp_by ρ 0 (3 * p + 1) = 115 ∨ sp_by ρ 0 (3 * p + 1) = 119 := by
  obtain ⟨hw, hl⟩ := P_in hp
  have h := well_fit hw (i := 3 * p + 1) (by omega)
  unfold sp_fit sp_fitP at h
  rw [if_pos rfl, show (3 * p + 1) % 3 = 1 by omega, if_neg (by decide), if_pos rfl] at h
  exact of_decide_eq_true h
theorem wm_rng {ρ : fd_H} {n : Nat} (hn : n < sp_N ρ) : 97 ≤ sp_by ρ 1 n ∧ sp_by ρ 1 n ≤ 122 := by
  obtain ⟨hw, hl⟩ := N_in hn
  have h := well_fit hw hl
  unfold sp_fit at h
  rw [if_neg (by decide), if_pos rfl] at h
  simpa only [Bool.and_eq_true, decide_eq_true_eq] using h
theorem ht_le {ρ : fd_H} {p : Nat} (hp : p < sp_P ρ) : sp_ht ρ p ≤ 9 := by have := ht_rng hp; unfold sp_ht; omega
theorem kd_le {ρ : fd_H} {p : Nat} : sp_kd ρ p ≤ 3 := by
  unfold sp_kd sp_kdN
  repeat' split
  all_goals omega
theorem wm_le {ρ : fd_H} {n : Nat} (hn : n < sp_N ρ) : sp_wm ρ n ≤ 25 := by have := wm_rng hn; unfold sp_wm; omega
theorem d_fit {ρ : fd_H} {d j : Nat} (hd : d < sp_D ρ) (hj : j < 7) : sp_fitD j (sp_by ρ 2 (8 * d + j)) (if 8 * d + j = 0 then 0 else sp_by ρ 2 (8 * d + j - 1)) = true := by
  obtain ⟨hw, hl⟩ := D_in hd
  have h := well_fit hw (i := 8 * d + j) (by omega)
  unfold sp_fit at h
  rw [if_neg (by decide), if_neg (by decide), show (8 * d + j) % 8 = j by omega] at h
  exact h
theorem d0_rng {ρ : fd_H} {d : Nat} (hd : d < sp_D ρ) : 97 ≤ sp_by ρ 2 (8 * d) ∧ sp_by ρ 2 (8 * d) ≤ 102 := by
  have h := d_fit hd (j := 0) (by omega)
  unfold sp_fitD at h
  simpa only [Nat.zero_le, ↓reduceIte, Bool.and_eq_true, decide_eq_true_eq, Nat.add_zero] using h
theorem d1_rng {ρ : fd_H} {d : Nat} (hd : d < sp_D ρ) : 97 ≤ sp_by ρ 2 (8 * d + 1) ∧ sp_by ρ 2 (8 * d + 1) ≤ 102 := by
  have h := d_fit hd (j := 1) (by omega)
  unfold sp_fitD at h
  simpa only [Nat.le_refl, ↓reduceIte, Bool.and_eq_true, decide_eq_true_eq] using h
theorem d2_rng {ρ : fd_H} {d : Nat} (hd : d < sp_D ρ) : 48 ≤ sp_by ρ 2 (8 * d + 2) ∧ sp_by ρ 2 (8 * d + 2) ≤ 57 := by
  have h := d_fit hd (j := 2) (by omega)
  unfold sp_fitD at h
  rw [if_neg (by decide), if_pos rfl] at h
  have := dig_iff.mp h
  omega
theorem d3_rng {ρ : fd_H} {d : Nat} (hd : d < sp_D ρ) : 48 ≤ sp_by ρ 2 (8 * d + 3) ∧ sp_by ρ 2 (8 * d + 3) ≤ 57 ∧ ¬ (sp_by ρ 2 (8 * d + 2) = 48 ∧ sp_by ρ 2 (8 * d + 3) = 48) := by
  have h := d_fit hd (j := 3) (by omega)
  unfold sp_fitD at h
  rw [if_neg (by decide), if_neg (by decide), if_pos rfl, if_neg (by omega)] at h
  simp only [Bool.and_eq_true, Bool.not_eq_true', Bool.and_eq_false_iff, decide_eq_false_iff_not] at h
  have h1 := dig_iff.mp h.1
  refine ⟨h1.1, by omega, fun q => ?_⟩
  rcases h.2 with e | e
  · exact e q.1
  · exact e q.2
theorem d4_rng {ρ : fd_H} {d : Nat} (hd : d < sp_D ρ) : 48 ≤ sp_by ρ 2 (8 * d + 4) ∧ sp_by ρ 2 (8 * d + 4) ≤ 55 := by
  have h := d_fit hd (j := 4) (by omega)
  unfold sp_fitD at h
  rw [if_neg (by decide), if_neg (by decide), if_neg (by decide), if_pos rfl] at h
  have := dig_iff.mp h
  omega
theorem d5_rng {ρ : fd_H} {d : Nat} (hd : d < sp_D ρ) : 48 ≤ sp_by ρ 2 (8 * d + 5) ∧ sp_by ρ 2 (8 * d + 5) ≤ 51 := by
  have h := d_fit hd (j := 5) (by omega)
  unfold sp_fitD at h
  rw [if_neg (by decide), if_neg (by decide), if_neg (by decide), if_neg (by decide), if_pos rfl] at h
  have := dig_iff.mp h
  omega
theorem d6_rng {ρ : fd_H} {d : Nat} (hd : d < sp_D ρ) : 48 ≤ sp_by ρ 2 (8 * d + 6) ∧ sp_by ρ 2 (8 * d + 6) ≤ 57 := by
  have h := d_fit hd (j := 6) (by omega)
  unfold sp_fitD at h
  rw [if_neg (by decide), if_neg (by decide), if_neg (by decide), if_neg (by decide), if_neg (by decide), if_pos rfl] at h
  have := dig_iff.mp h
  omega
theorem f0_le {ρ : fd_H} {d : Nat} (hd : d < sp_D ρ) : sp_f ρ d 0 ≤ 5 := by
  have := d0_rng hd; show sp_by ρ 2 (8 * d) - 97 ≤ 5; omega
theorem f1_le {ρ : fd_H} {d : Nat} (hd : d < sp_D ρ) : sp_f ρ d 1 ≤ 5 := by
  have := d1_rng hd; show sp_by ρ 2 (8 * d + 1) - 97 ≤ 5; omega
theorem f2_rng {ρ : fd_H} {d : Nat} (hd : d < sp_D ρ) : 1 ≤ sp_f ρ d 2 ∧ sp_f ρ d 2 ≤ 99 := by
  have h1 := d2_rng hd
  have h2 := d3_rng hd
  show 1 ≤ sp_two ρ (8 * d + 2) ∧ sp_two ρ (8 * d + 2) ≤ 99
  unfold sp_two
  rw [show 8 * d + 2 + 1 = 8 * d + 3 by omega]
  omega
theorem f3_le {ρ : fd_H} {d : Nat} (hd : d < sp_D ρ) : sp_f ρ d 3 ≤ 7 := by
  have := d4_rng hd; show sp_by ρ 2 (8 * d + 4) - 48 ≤ 7; omega
theorem f4_le {ρ : fd_H} {d : Nat} (hd : d < sp_D ρ) : sp_f ρ d 4 ≤ 39 := by
  have h1 := d5_rng hd
  have h2 := d6_rng hd
  show sp_two ρ (8 * d + 5) ≤ 39
  unfold sp_two
  rw [show 8 * d + 5 + 1 = 8 * d + 6 by omega]
  omega
