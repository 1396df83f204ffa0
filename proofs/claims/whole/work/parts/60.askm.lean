/-! ===== ask, in the model ===== -/
theorem ask_in {ρ : fd_H} {n p : Nat} (hv : sp_V ρ) (hn : n < sp_N ρ) (hp : p < sp_P ρ) (K : Int32 → Int32 → Int32 → Int32 → Int32 → fd_H → Option (Int32 × fd_H)) (x v3 v4 v5 : Int32) : ∀ d w f g, w + d = 26 → d < f → (∃ u, mt g ρ (sp_ww ρ n u) (sp_cl ρ) 8) → ∃ g', (∃ u, mt g' ρ (sp_ww ρ n u) (sp_cl ρ) 8) ∧ fX9_askOf_L40 (nI n) K f x v3 v4 v5 (nI p) (nI (sp_sum (sp_lh ρ x n p true) w)) (nI (sp_sum (sp_lh ρ x n p false) w)) (nI w) g = fX9_askOf_L128 (nI n) K x v3 v4 v5 (nI p) (nI (sp_lw ρ x n p)) g' := by
  have hb := P_le hv.1
  have hN := N_le hv.1
  intro d
  induction d with
  | zero =>
    intro w f g hd hf hg
    obtain ⟨f, rfl⟩ : ∃ k, f = k + 1 := ⟨f - 1, by omega⟩
    have : w = 26 := by omega
    subst this
    refine ⟨g, hg, ?_⟩
    have l1 := lh_le ρ x n p true 26
    have l2 := lh_le ρ x n p false 26
    unfold sp_lw
    generalize sp_sum (sp_lh ρ x n p true) 26 = A at *
    generalize sp_sum (sp_lh ρ x n p false) 26 = B at *
    rw [fX9_askOf_L40]; dsimp only
    rw [if_pos (show (26 : Int32) ≤ nI 26 by decide)]
    by_cases q : A ≤ B
    · rw [if_pos (nI_le q (by omega)), Nat.max_eq_right q]
    · rw [if_neg (nI_ge (by omega) (by omega)), Nat.max_eq_left (by omega)]
  | succ d ih =>
    intro w f g hd hf ⟨u, hg⟩
    obtain ⟨f, rfl⟩ : ∃ k, f = k + 1 := ⟨f - 1, by omega⟩
    rw [fX9_askOf_L40]; dsimp only
    unfold fX9_askOf_L85 fX9_askOf_L105
    rw [if_neg (show ¬ (26 : Int32) ≤ nI w from nI_ge (b := 26) (by omega) (by omega)), isIn_eq x (by omega), Option.bind_some, nI_1]
    have st : ∀ b, sp_sum (sp_lh ρ x n p b) (w + 1) = sp_sum (sp_lh ρ x n p b) w + sp_lh ρ x n p b w := fun b => rfl
    cases e : g32 x w
    · rw [if_neg (by decide)]
      have z : ∀ b, sp_lh ρ x n p b w = 0 := fun b => by unfold sp_lh; rw [e]; rfl
      have := ih (w + 1) f g (by omega) (by omega) ⟨u, hg⟩
      rw [st, st, z, z] at this
      exact this
    · have hg2 := mt_ww (u := w) hg
      obtain ⟨g3, e3, k1, k2, k3⟩ := lays_eq hv.1 hv.2.1 (ww_le (by omega : w ≤ 25)) hg2
      have := ih (w + 1) f g3 (by omega) (by omega) ⟨w, k1⟩
      rw [if_pos rfl, in_nI (by omega) (by omega), fd_g, if_pos rfl, fd_lt, nI_clamp (by omega), e3, Option.bind_some, had_m hb k1.2.1 k2 (by omega) (by omega), decide_eq_true hp, Bool.true_and, Option.bind_some]
      simp only [Option.bind_some, fd_lt]
      rw [show fd_b true = nI 1 from rfl, show fd_b false = nI 0 from rfl, nI_add, nI_add, nI_add, nI_add]
      rw [st, st] at this
      unfold sp_lh at this ⊢
      rw [e] at this
      cases z : decide (sp_fi ρ (sp_ww ρ n w) (sp_cl ρ) 8 p ≤ n)
      · rw [z] at this; exact this
      · rw [z] at this; exact this
theorem askOf_eq {m ρ : fd_H} {n : Nat} (hr : sp_raw m = ρ) (hv : sp_V ρ) (hn : n < sp_N ρ) : ∃ m', fX9_askOf (nI n) m = some ((sp_ak ρ (sp_was ρ n) n (sp_P ρ)).1, m') ∧ mt m' ρ (sp_wm ρ) (sp_cl ρ) 8 := by
  have hb := P_le hv.1
  have hN := N_le hv.1
  obtain ⟨m2, e2, h2⟩ := wasOf_eq hr hv hn
  unfold fX9_askOf
  rw [e2, Option.bind_some]; dsimp only
  rw [in_nI (by omega) (by omega), fd_g, if_pos rfl, fd_lt, nI_clamp (by omega), h2.2.2.1.2 n hn]
  refine lpi0 (F := fun f (a : (Int32 × Int32) × fd_H) i => fX9_askOf_L22 (nI n) f (sp_was ρ n) (nI (sp_wm ρ n)) a.1.1 a.1.2 i a.2) (fun i a => a.1 = sp_ak ρ (sp_was ρ n) n i ∧ ∃ u, mt a.2 ρ (sp_ww ρ n u) (sp_cl ρ) 8) (sp_P ρ) (by omega) (post := fun o => ∃ m', o = some ((sp_ak ρ (sp_was ρ n) n (sp_P ρ)).1, m') ∧ mt m' ρ (sp_wm ρ) (sp_cl ρ) 8) (a := ((-1, 0), m2)) ⟨rfl, sp_wm ρ n, mt_wf h2 (fun k _ => ww_self)⟩ ?_ ?_
  · intro f a ⟨a1, u, a2⟩
    refine ⟨fd_ui a.2 78 n (nI (sp_wm ρ n)), ?_, mt_wf (mt_ww a2) (fun k _ => ww_self.symm)⟩
    show fX9_askOf_L22 (nI n) (f + 1) (sp_was ρ n) (nI (sp_wm ρ n)) a.1.1 a.1.2 (nI (sp_P ρ)) a.2 = _
    rw [fX9_askOf_L22]; dsimp only
    rw [a2.2.1.1, if_pos (nI_le (Nat.le_refl _) (by omega)), in_nI (by omega) (by omega), fd_g, if_pos rfl, fd_lt, nI_clamp (by omega), a1]
  · intro f i a hi ⟨a1, a2⟩
    obtain ⟨g', k1, k2⟩ := ask_in hv hn hi (fX9_askOf_L22 (nI n) f) (sp_was ρ n) (nI (sp_wm ρ n)) a.1.1 a.1.2 26 0 fd_fu a.2 (by omega) (by have := fu_ge; omega) a2
    obtain ⟨u, a2⟩ := a2
    refine ⟨(if a.1.1 = -1 then (nI i, nI (sp_lw ρ (sp_was ρ n) n i)) else if a.1.2 ≤ nI (sp_lw ρ (sp_was ρ n) n i) then a.1 else (nI i, nI (sp_lw ρ (sp_was ρ n) n i)), g'), ⟨?_, k1⟩, ?_⟩
    · show (if a.1.1 = -1 then (nI i, nI (sp_lw ρ (sp_was ρ n) n i)) else if a.1.2 ≤ nI (sp_lw ρ (sp_was ρ n) n i) then a.1 else (nI i, nI (sp_lw ρ (sp_was ρ n) n i))) = sp_ak ρ (sp_was ρ n) n (i + 1)
      rw [a1]; rfl
    · show fX9_askOf_L22 (nI n) (f + 1) (sp_was ρ n) (nI (sp_wm ρ n)) a.1.1 a.1.2 (nI i) a.2 = fX9_askOf_L22 (nI n) f (sp_was ρ n) (nI (sp_wm ρ n)) (if a.1.1 = -1 then (nI i, nI (sp_lw ρ (sp_was ρ n) n i)) else if a.1.2 ≤ nI (sp_lw ρ (sp_was ρ n) n i) then a.1 else (nI i, nI (sp_lw ρ (sp_was ρ n) n i))).1 (if a.1.1 = -1 then (nI i, nI (sp_lw ρ (sp_was ρ n) n i)) else if a.1.2 ≤ nI (sp_lw ρ (sp_was ρ n) n i) then a.1 else (nI i, nI (sp_lw ρ (sp_was ρ n) n i))).2 (nI (i + 1)) g'
      rw [fX9_askOf_L22]; dsimp only
      rw [a2.2.1.1, if_neg (nI_ge hi (by omega))]
      refine k2.trans ?_
      unfold fX9_askOf_L128 fX9_askOf_L148 fX9_askOf_L162 fX9_askOf_L176
      rw [nI_1]
      by_cases c1 : a.1.1 = -1
      · rw [if_pos c1, if_pos c1]; rfl
      · rw [if_neg c1, if_neg c1]
        by_cases c2 : a.1.2 ≤ nI (sp_lw ρ (sp_was ρ n) n i)
        · rw [if_pos c2, if_pos c2]; rfl
        · rw [if_neg c2, if_neg c2]; rfl
theorem q_ask : pp_ask RR := by
  intro hx hm a ⟨ρ, hr, hv, hc⟩
  have hN := N_le hv.1
  rcases below_cases a (n := sp_N ρ) (by omega) with ⟨n, hn, rfl⟩ | h
  · obtain ⟨h', e1, e2⟩ := ask_c hv hc hn
    obtain ⟨m1, f1, f2⟩ := isNight_y hr hv.1 hn
    obtain ⟨m2, g1, g2⟩ := askOf_eq f2.1 hv hn
    unfold fX9_ask
    rw [e1, f1, Option.bind_some]; dsimp only
    rw [if_pos rfl, g1]
    exact ⟨_, h', m2, rfl, rfl, ρ, g2.1, hv, e2⟩
  · obtain ⟨m1, f1, f2⟩ := isNight_n hr hv.1 h
    unfold fX8_ask fX9_ask
    rw [hc.N.1, below_n h, f1]
    exact ⟨_, hx, m1, rfl, rfl, ρ, f2.1, hv, hc⟩
