/-! ===== count, write ===== -/
theorem q_count : pp_count RR := by
  intro hx hm a ⟨ρ, hr, hv, hc⟩
  obtain ⟨m', e, h⟩ := reads_eq hr hv.1
  have hT := fun t ht => (hc.T t ht).2.1
  have hM := fun k hk => (hc.M.2 k hk).1
  unfold fX8_count fX9_count fX9_partsMany
  by_cases c0 : a = 0
  · subst c0
    rw [if_pos rfl, if_pos rfl, e, hc.P.1]
    refine ⟨_, m', rfl, ?_, ρ, h.1, hv, hc⟩
    rw [← h.2.1.1]; rfl
  rw [if_neg c0, if_neg c0]
  by_cases c1 : a = 1
  · subst c1
    rw [if_pos rfl, if_pos rfl, e, hc.N.1]
    refine ⟨_, m', rfl, ?_, ρ, h.1, hv, hc⟩
    rw [← h.2.2.1.1]; rfl
  rw [if_neg c1, if_neg c1]
  by_cases c2 : a = 2
  · subst c2
    rw [if_pos rfl, if_pos rfl, e, hc.D.1]
    refine ⟨_, m', rfl, ?_, ρ, h.1, hv, hc⟩
    rw [← h.2.2.2.1]; rfl
  rw [if_neg c2, if_neg c2]
  by_cases c3 : a = 3
  · subst c3
    refine ⟨nI (sp_tl ρ 0), hm, ?_, ?_, ρ, hr, hv, hc⟩
    · rw [if_pos rfl, ← hT 0 (by omega)]; rfl
    · rw [if_pos rfl, ← (hv.1 0 (by omega)).1, ← raw_get hr 74 0 rfl]; rfl
  rw [if_neg c3, if_neg c3]
  by_cases c4 : a = 4
  · subst c4
    refine ⟨nI (sp_tl ρ 1), hm, ?_, ?_, ρ, hr, hv, hc⟩
    · rw [if_pos rfl, ← hT 1 (by omega)]; rfl
    · rw [if_pos rfl, ← (hv.1 1 (by omega)).1, ← raw_get hr 74 1 rfl]; rfl
  rw [if_neg c4, if_neg c4]
  by_cases c5 : a = 5
  · subst c5
    refine ⟨nI (sp_tl ρ 2), hm, ?_, ?_, ρ, hr, hv, hc⟩
    · rw [if_pos rfl, ← hT 2 (by omega)]; rfl
    · rw [if_pos rfl, ← (hv.1 2 (by omega)).1, ← raw_get hr 74 2 rfl]; rfl
  rw [if_neg c5, if_neg c5]
  by_cases c6 : a = 6
  · subst c6
    refine ⟨nI (sp_mc ρ 0) + nI (sp_mc ρ 1) + nI (sp_mc ρ 2), hm, ?_, ?_, ρ, hr, hv, hc⟩
    · rw [if_pos rfl, ← hM 0 (by omega), ← hM 1 (by omega), ← hM 2 (by omega)]
    · rw [if_pos rfl, ← (hv.2.1.2.2 0 (by omega)).1, ← (hv.2.1.2.2 1 (by omega)).1, ← (hv.2.1.2.2 2 (by omega)).1, ← raw_get hr 84 0 rfl, ← raw_get hr 84 1 rfl, ← raw_get hr 84 2 rfl]; rfl
  rw [if_neg c6, if_neg c6]
  by_cases c7 : a = 7
  · subst c7
    refine ⟨nI (sp_sc ρ), hm, ?_, ?_, ρ, hr, hv, hc⟩
    · rw [if_pos rfl, ← hc.S.1]
    · rw [if_pos rfl, ← hv.2.2.1.1, ← raw_get hr 73 21 rfl]
  rw [if_neg c7, if_neg c7]
  by_cases c8 : a = 8
  · subst c8
    refine ⟨ρ.1 73 30, hm, ?_, ?_, ρ, hr, hv, hc⟩
    · rw [if_pos rfl, hc.F]
    · rw [if_pos rfl, ← raw_get hr 73 30 rfl]
  rw [if_neg c8, if_neg c8]
  exact ⟨_, hm, rfl, rfl, ρ, hr, hv, hc⟩
def sp_all (ρ : fd_H) (n : Nat) : Int32 := nI (sp_sum (fun a => sp_ow ρ (sp_f0 ρ) 0 a n) 6)
theorem owedBy_eq {m ρ : fd_H} {n : Nat} (hr : sp_raw m = ρ) (hv : sp_V ρ) (hn : n < 40) : ∃ m', fX9_owedBy (nI n) m = some (sp_all ρ n, m') ∧ mt m' ρ (sp_wm ρ) (sp_cl ρ) 8 := by
  obtain ⟨m2, e2, g1, g2⟩ := laysTold_eq hr hv.1 hv.2.1
  refine ⟨m2, ?_, g1⟩
  unfold fX9_owedBy
  rw [e2, Option.bind_some]
  refine lp0 (F := fun f v i => fX9_owedBy_L8 (nI n) f v i m2) (fun i => nI (sp_sum (fun a => sp_ow ρ (sp_f0 ρ) 0 a n) i)) 6 (by omega) ?_ ?_
  · intro f
    show fX9_owedBy_L8 (nI n) (f + 1) (nI (sp_sum _ 6)) (nI 6) m2 = _
    rw [fX9_owedBy_L8]; dsimp only
    rw [show (6 : Int32) = nI 6 from rfl, if_pos (nI_le (Nat.le_refl _) (by omega))]
    rfl
  · intro f i hi
    show fX9_owedBy_L8 (nI n) (f + 1) (nI (sp_sum (fun a => sp_ow ρ (sp_f0 ρ) 0 a n) i)) (nI i) m2 = fX9_owedBy_L8 (nI n) f (nI (sp_sum (fun a => sp_ow ρ (sp_f0 ρ) 0 a n) i + sp_ow ρ (sp_f0 ρ) 0 i n)) (nI (i + 1)) m2
    rw [fX9_owedBy_L8]; dsimp only
    rw [show (6 : Int32) = nI 6 from rfl, if_neg (nI_ge hi (by omega)), show (0 : Int32) = nI 0 from rfl, owes_m hv.1 g1.2.1 g1.2.2.2.1 g2 hi hn (by omega), Option.bind_some, fd_lt, nI_add, nI_1]
theorem sumAll_c {h ρ : fd_H} {n : Nat} (hv : sp_V1 ρ) (c : CX h ρ) (hn : n < 40) : fX8_sumOfAll (nI n) h = some (sp_all ρ n) := by
  refine lp0 (F := fun f v i => fX8_sumOfAll_L4 (nI n) h f v i) (fun i => nI (sp_sum (fun a => sp_ow ρ (sp_f0 ρ) 0 a n) i)) 6 (by omega) ?_ ?_
  · intro f
    show fX8_sumOfAll_L4 (nI n) h (f + 1) (nI (sp_sum _ 6)) (nI 6) = _
    rw [fX8_sumOfAll_L4]; dsimp only
    rw [show (6 : Int32) = nI 6 from rfl, if_pos (nI_le (Nat.le_refl _) (by omega))]
    rfl
  · intro f i hi
    show fX8_sumOfAll_L4 (nI n) h (f + 1) (nI (sp_sum (fun a => sp_ow ρ (sp_f0 ρ) 0 a n) i)) (nI i) = fX8_sumOfAll_L4 (nI n) h f (nI (sp_sum (fun a => sp_ow ρ (sp_f0 ρ) 0 a n) i + sp_ow ρ (sp_f0 ρ) 0 i n)) (nI (i + 1))
    rw [fX8_sumOfAll_L4]; dsimp only
    rw [show (6 : Int32) = nI 6 from rfl, if_neg (nI_ge hi (by omega)), show (0 : Int32) = nI 0 from rfl, owes_c hv c hi hn (by omega), Option.bind_some, fd_lt, nI_add, nI_1]
theorem write_loop {s b z : Nat} (hs : s < 4) (hb : b < 2) (hz : z ≤ 48) : ∀ d i f hx hm, i + d = min z 40 → d < f → RR hx hm → hm.1 95 s = nI z → ∃ r hx' hm', fX8_write_L53 (nI b) (nI s) f (61 + 3 * s) (nI (min z 40)) (nI i) hx = some (r, hx') ∧ fX9_write_L36 (nI b) (nI s) f (nI i) hm = some (r, hm') ∧ RR hx' hm' := by
  intro d
  induction d with
  | zero =>
    intro i f hx hm hi hf hR h5
    obtain ⟨f, rfl⟩ : ∃ k, f = k + 1 := ⟨f - 1, by omega⟩
    refine ⟨nI i, hx, hm, ?_, ?_, hR⟩
    · rw [fX8_write_L53]; dsimp only
      rw [if_pos (nI_le (by omega) (by omega)), show i = min z 40 by omega]
    · rw [fX9_write_L36]; dsimp only
      rw [in_nI hs (by omega), fd_g, if_pos rfl, nI_clamp (by omega), h5, show (40 : Int32) = nI 40 from rfl]
      by_cases c : z ≤ i
      · rw [if_pos (nI_le c (by omega))]
      · rw [if_neg (nI_ge (by omega) (by omega)), if_pos (nI_le (by omega) (by omega))]
  | succ d ih =>
    intro i f hx hm hi hf hR h5
    obtain ⟨f, rfl⟩ : ∃ k, f = k + 1 := ⟨f - 1, by omega⟩
    have hR' := hR
    obtain ⟨ρ, hr, hv, hc⟩ := hR
    rw [fX8_write_L53, fX9_write_L36]; dsimp only
    unfold fX8_write_L82 fX9_write_L72
    rw [if_neg (nI_ge (by omega) (by omega)), in_nI hs (by omega), fd_g, if_pos rfl, nI_clamp (by omega), h5, if_neg (nI_ge (by omega) (by omega)), show (40 : Int32) = nI 40 from rfl, if_neg (nI_ge (by omega) (by omega)), nI_1]
    have go : ∀ v m2, sp_raw m2 = ρ → ∃ r hx' hm', (fX4_store (61 + 3 * s) (nI i) v hx).bind (fun h2 => fX8_write_L53 (nI b) (nI s) f (61 + 3 * s) (nI (min z 40)) (nI (i + 1)) h2) = some (r, hx') ∧ (fX9_keepsItem (nI s) (nI i) v m2).bind (fun h2 => fX9_write_L36 (nI b) (nI s) f (nI (i + 1)) h2) = some (r, hm') ∧ RR hx' hm' := by
      intro v m2 hr2
      have hR2 : RR hx m2 := ⟨ρ, hr2, hv, hc⟩
      obtain ⟨u, f1, f2⟩ := store_eq v hR2 hs (by omega : i < 48)
      rw [f1, f2, Option.bind_some, Option.bind_some]
      exact ih (i + 1) f _ _ (by omega) (by omega) (put_RR hR2 hs (by omega)) (by rw [ui_g (by omega), raw_get hr2 95 s rfl, ← raw_get hr 95 s rfl, h5])
    rcases (show b = 0 ∨ b = 1 by omega) with rfl | rfl
    · obtain ⟨m2, e2, g1⟩ := owedBy_eq hr hv (by omega : i < 40)
      rw [if_pos (show nI 0 = 0 from rfl), if_pos (show nI 0 = 0 from rfl), sumAll_c hv.1 hc (by omega), e2, Option.bind_some, Option.bind_some]
      exact go _ m2 g1.1
    · obtain ⟨m2, e2, g1⟩ := hangsOf_eq hr hv (by omega : i < 40)
      rw [if_neg (show ¬ nI 1 = 0 by decide), if_neg (show ¬ nI 1 = 0 by decide), hangs_c hv.1 hc (by omega), e2, Option.bind_some, Option.bind_some]
      exact go _ m2 g1.1
theorem q_write : pp_write RR := by
  intro hx hm a b hR
  unfold fX8_write fX9_write
  rw [show (4 : Int32) = nI 4 from rfl, show (2 : Int32) = nI 2 from rfl, show fX9_in a 0 1 = fX9_in a 0 (nI 1) from rfl]
  rcases below_cases a (n := 2) (by omega) with ⟨a, ha, rfl⟩ | h
  · rw [below_y ha (by omega), mbelow_y (by omega) (by omega), Option.bind_some, Option.bind_some, if_pos rfl, if_pos rfl]
    rcases below_cases b (n := 4) (by omega) with ⟨s, hs, rfl⟩ | h2
    · obtain ⟨a1, a2, ⟨z, a3, a3'⟩, a4, a5, a6, a7⟩ := sh_of hR s hs
      rw [below_y hs (by omega), isSheet_y hs, Option.bind_some, Option.bind_some, if_pos rfl, if_pos rfl, in_nI hs (by omega), fd_g, if_pos rfl, fd_g, if_pos rfl, nI_clamp (by omega)]
      by_cases c : hm.1 93 s = 0
      · obtain ⟨r, hx', hm', e1, e2, e3, -⟩ := find_c 1 hR
        rw [if_neg (fun q => a4.mp q c), if_pos c, e1, e2]
        exact ⟨_, hx', hm', rfl, rfl, e3⟩
      · rw [if_pos (a4.mpr c), if_neg c, fd_lt, a6, a3', show (40 : Int32) = nI 40 from rfl, min_nI (by omega) (by omega), show (if 40 < z then 40 else z) = min z 40 by split <;> omega]
        exact write_loop hs ha a3 (min z 40) 0 fd_fu hx hm (by omega) (by have := fu_ge; omega) hR a3'
    · rw [below_n h2, isSheet_n h2]
      exact ⟨_, hx, hm, rfl, rfl, hR⟩
  · rw [below_n h, mbelow_n (by omega) h]
    exact ⟨_, hx, hm, rfl, rfl, hR⟩
