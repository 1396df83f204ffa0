/-! ===== ask, in the model ===== -/
theorem ask_in {ρ : fd_H} {n p : Nat} (hv : sp_V ρ) (hn : n < sp_N ρ) (hp : p < sp_P ρ) (K : Int32 → Int32 → Int32 → Int32 → Int32 → fd_H → Option (Int32 × fd_H)) (x v3 v4 v5 : Int32) : ∀ d w f g, w + d = 26 → d < f → (∃ u, mt g ρ (sp_ww ρ n u) (sp_cl ρ) 8) → ∃ g', (∃ u, mt g' ρ (sp_ww ρ n u) (sp_cl ρ) 8) ∧ fX9_askOf_L40 (nI n) K f x v3 v4 v5 (nI p) (nI (sp_sum (sp_lh ρ x n p true) w)) (nI (sp_sum (sp_lh ρ x n p false) w)) (nI w) g = fX9_askOf_L128 (nI n) K x v3 v4 v5 (nI p) (nI (sp_lw ρ x n p)) g' := by
  have hb := P_le hv.1
  have hN := N_le hv.1
  intro d
  induction d with
  | zero =>
    intro w f g hd hf hg
    obtain ⟨f, rfl⟩ : ∃ k, f = k + 1 := ⟨f - 1, by omega⟩
    have : w = 26 := by omega
    subst this
    refine ⟨g, hg, ?_⟩
    have l1 := lh_le ρ x n p true 26
    have l2 := lh_le ρ x n p false 26
    unfold sp_lw
    generalize sp_sum (sp_lh ρ x n p true) 26 = A at *
    generalize sp_sum (sp_lh ρ x n p false) 26 = B at *
    rw [fX9_askOf_L40]; dsimp only
    rw [if_pos (show (26 : Int32) ≤ nI 26 by decide)]
    by_cases q : A ≤ B
    · rw [if_pos (nI_le q (by omega)), Nat.max_eq_right q]
    · rw [if_neg (nI_ge (by omega) (by omega)), Nat.max_eq_left (by omega)]
  | succ d ih =>
    intro w f g hd hf ⟨u, hg⟩
    obtain ⟨f, rfl⟩ : ∃ k, f = k + 1 := ⟨f - 1, by omega⟩
    rw [fX9_askOf_L40]; dsimp only
    unfold fX9_askOf_L85 fX9_askOf_L105
    rw [if_neg (show ¬ (26 : Int32) ≤ nI w from nI_ge (b := 26) (by omega) (by omega)), isIn_eq x (by omega), Option.bind_some, nI_1]
    have st : ∀ b, sp_sum (sp_lh ρ x n p b) (w + 1) = sp_sum (sp_lh ρ x n p b) w + sp_lh ρ x n p b w := fun b => rfl
    cases e : g32 x w
    · rw [if_neg (by decide)]
      have z : ∀ b, sp_lh ρ x n p b w = 0 := fun b => by unfold sp_lh; rw [e]; rfl
      have := ih (w + 1) f g (by omega) (by omega) ⟨u, hg⟩
      rw [st, st, z, z] at this
      exact this
    · have hg2 := mt_ww (u := w) hg
      obtain ⟨g3, e3, k1, k2, k3⟩ := lays_eq hv.1 hv.2.1 (ww_le (by omega : w ≤ 25)) hg2
      have := ih (w + 1) f g3 (by omega) (by omega) ⟨w, k1⟩
      rw [if_pos rfl, in_nI (by omega) (by omega), fd_g, if_pos rfl, fd_lt, nI_clamp (by omega), e3, Option.bind_some, had_m hb k1.2.1 k2 (by omega) (by omega), decide_eq_true hp, Bool.true_and, Option.bind_some]
      simp only [Option.bind_some, fd_lt]
      rw [show fd_b true = nI 1 from rfl, show fd_b false = nI 0 from rfl, nI_add, nI_add, nI_add, nI_add]
      rw [st, st] at this
      unfold sp_lh at this ⊢
      rw [e] at this
      cases z : decide (sp_fi ρ (sp_ww ρ n w) (sp_cl ρ) 8 p ≤ n)
      · rw [z] at this; exact this
      · rw [z] at this; exact this
