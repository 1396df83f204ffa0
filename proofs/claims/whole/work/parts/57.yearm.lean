/-! ===== year in the model ===== -/
theorem year_cntm {m ρ : fd_H} {fi : Nat → Nat} (a b r : Int32) (hv : sp_V ρ) (hP : mp_P m ρ) (hD : mp_D m ρ) (hf : mf m ρ fi) (hr : ∀ v : Int32, (if b = -1 then some (v, m) else fd_g (fd_in b 8) (some (m.1 88 b.toNatClampNeg, m))) = some (if b = -1 then v else r, m)) : fX9_yearOf_L65 a b fd_fu 0 0 m = some (if b = -1 then nI (sp_sum (fun d => if sp_st ρ fi d (sp_f ρ d 3) 39 = true then 1 else 0) (sp_D ρ)) else r, m) := by
  have hb := D_le hv.1
  refine lp0 (F := fun f v i => fX9_yearOf_L65 a b f v i m) (fun i => nI (sp_sum (fun d => if sp_st ρ fi d (sp_f ρ d 3) 39 = true then 1 else 0) i)) (sp_D ρ) (by omega) ?_ ?_
  · intro f
    show fX9_yearOf_L65 a b (f + 1) (nI (sp_sum _ (sp_D ρ))) (nI (sp_D ρ)) m = _
    rw [fX9_yearOf_L65]; dsimp only
    rw [hD.1, if_pos (nI_le (Nat.le_refl _) (by omega)), hr]
  · intro f i hi
    have h3 := f3_le hi
    show fX9_yearOf_L65 a b (f + 1) (nI (sp_sum (fun d => if sp_st ρ fi d (sp_f ρ d 3) 39 = true then 1 else 0) i)) (nI i) m = fX9_yearOf_L65 a b f (nI (sp_sum (fun d => if sp_st ρ fi d (sp_f ρ d 3) 39 = true then 1 else 0) i + if sp_st ρ fi i (sp_f ρ i 3) 39 = true then 1 else 0)) (nI (i + 1)) m
    generalize sp_sum (fun d => if sp_st ρ fi d (sp_f ρ d 3) 39 = true then 1 else 0) i = S
    rw [fX9_yearOf_L65]; dsimp only
    unfold fX9_yearOf_L99
    rw [hD.1, if_neg (nI_ge hi (by omega)), in_nI (by omega) (by omega), fd_g, if_pos rfl, nI_clamp (by omega), (hD.2 i hi).2.2.2.1, show (39 : Int32) = nI 39 from rfl, stand_m hv.1 hP hD hf hi (by omega) (by omega), Option.bind_some, fd_lt, fd_lt, show fd_b true = nI 1 from rfl, show fd_b false = nI 0 from rfl, nI_add, nI_add, nI_1]
    cases sp_st ρ fi i (sp_f ρ i 3) 39 <;> rfl
theorem year_m {m ρ : fd_H} (a b : Int32) (hr : sp_raw m = ρ) (hv : sp_V ρ) : ∃ m', mt m' ρ (sp_wm ρ) (sp_cy ρ a) 8 ∧ mf m' ρ (sp_fi ρ (sp_wm ρ) (sp_cy ρ a) 8) ∧ fX9_yearOf a b m = fX9_yearOf_L65 a b fd_fu 0 0 m' := by
  have hN := N_le hv.1
  obtain ⟨m2, e2, h2⟩ := asTold_eq hr hv.1 hv.2.1
  unfold fX9_yearOf
  rw [e2, Option.bind_some]
  refine lpi0 (F := fun f (s : Int32 × fd_H) i => fX9_yearOf_L9 a b f s.1 i s.2) (fun k s => s.1 = sp_sd a k ∧ mt s.2 ρ (sp_wm ρ) (fun n => if n < k then sp_cq a n else sp_cl ρ n) 8) (sp_N ρ) (by omega) (post := fun o => ∃ m', mt m' ρ (sp_wm ρ) (sp_cy ρ a) 8 ∧ mf m' ρ (sp_fi ρ (sp_wm ρ) (sp_cy ρ a) 8) ∧ o = fX9_yearOf_L65 a b fd_fu 0 0 m') (a := (a, m2)) ⟨rfl, h2.to0.to (fun n hn => by rw [if_neg (Nat.not_lt_zero n)]; exact h2.2.2.2.2.1 n hn)⟩ ?_ ?_
  · intro f s ⟨s1, s2⟩
    have s2 : mt s.2 ρ (sp_wm ρ) (sp_cy ρ a) 8 := s2
    obtain ⟨m3, e3, g1, g2, g3⟩ := lays_eq hv.1 hv.2.1 (fun n hn => wm_le hn) s2
    refine ⟨m3, g1, g2, ?_⟩
    show fX9_yearOf_L9 a b (f + 1) s.1 (nI (sp_N ρ)) s.2 = _
    rw [fX9_yearOf_L9]; dsimp only
    rw [s2.2.2.1.1, if_pos (nI_le (Nat.le_refl _) (by omega)), e3]
    rfl
  · intro f k s hk ⟨s1, s2⟩
    have hra : sp_raw (fd_ui s.2 87 k (fd_b (sp_cq a k))) = ρ := raw_ui2 s2.1 rfl
    refine ⟨(sp_sd a (k + 1), fd_ui s.2 87 k (fd_b (sp_cq a k))), ⟨rfl, (s2.to0.of hra (fun x y b _ _ => ui_g (by omega))).to (fun n hn => ?_)⟩, ?_⟩
    · by_cases q : n = k
      · subst q
        show (fd_ui s.2 87 n (fd_b (sp_cq a n))).1 87 n = fd_b (if n < n + 1 then sp_cq a n else sp_cl ρ n)
        rw [ui_s, if_pos (by omega)]
      · show (fd_ui s.2 87 k (fd_b (sp_cq a k))).1 87 n = fd_b (if n < k + 1 then sp_cq a n else sp_cl ρ n)
        have : s.2.1 87 n = fd_b (if n < k then sp_cq a n else sp_cl ρ n) := s2.2.2.2.2.1 n hn
        rw [ui_g (by omega), this]
        by_cases z : n < k
        · rw [if_pos z, if_pos (by omega)]
        · rw [if_neg z, if_neg (by omega)]
    · show fX9_yearOf_L9 a b (f + 1) s.1 (nI k) s.2 = fX9_yearOf_L9 a b f (sp_sd a (k + 1)) (nI (k + 1)) _
      have ex : 1103515245 * s.1 + 12345 = sp_sd a (k + 1) := by rw [s1]; rfl
      rw [fX9_yearOf_L9]; dsimp only
      unfold fX9_yearOf_L48
      rw [s2.2.2.1.1, if_neg (nI_ge hk (by omega)), fd_lt, ex, in_nI (by omega) (by omega), fd_g, if_pos rfl, fd_g, if_pos rfl, fd_lt, fd_lt, nI_clamp (by omega), nI_1]
      by_cases q : fd_irem (fd_iushr (sp_sd a (k + 1)) 16) 4 = 0
      · rw [if_pos q, show sp_cq a k = true from decide_eq_true q]
      · rw [if_neg q, show sp_cq a k = false from decide_eq_false q]
theorem yearOf_1 {m ρ : fd_H} (a : Int32) (hr : sp_raw m = ρ) (hv : sp_V ρ) : ∃ m', fX9_yearOf a (-1) m = some (nI (sp_yn ρ a), m') ∧ mp_R m' ρ := by
  obtain ⟨m', g1, g2, g3⟩ := year_m a (-1) hr hv
  refine ⟨m', ?_, g1.1, g1.2.1, g1.2.2.1, g1.2.2.2.1⟩
  rw [g3, year_cntm a (-1) 0 hv g1.2.1 g1.2.2.2.1 g2 (fun v => rfl)]
  rfl
theorem yearOf_2 {m ρ : fd_H} {p : Nat} (a : Int32) (hr : sp_raw m = ρ) (hv : sp_V ρ) (hp : p < sp_P ρ) : ∃ m', fX9_yearOf a (nI p) m = some (sp_fI (sp_fi ρ (sp_wm ρ) (sp_cy ρ a) 8 p), m') ∧ mp_R m' ρ := by
  have hb := P_le hv.1
  obtain ⟨m', g1, g2, g3⟩ := year_m a (nI p) hr hv
  refine ⟨m', ?_, g1.1, g1.2.1, g1.2.2.1, g1.2.2.2.1⟩
  have n1 : ¬ nI p = -1 := m1_ne (by omega)
  rw [g3, year_cntm a (nI p) (sp_fI (sp_fi ρ (sp_wm ρ) (sp_cy ρ a) 8 p)) hv g1.2.1 g1.2.2.2.1 g2 (fun v => by rw [if_neg n1, if_neg n1, in_nI (by omega) (by omega), fd_g, if_pos rfl, nI_clamp (by omega), g2 p hp]), if_neg n1]
theorem q_year : pp_year RR := by
  intro hx hm a b ⟨ρ, hr, hv, hc⟩
  have hb := P_le hv.1
  unfold fX8_year fX9_year fX9_year_L13
  by_cases c : b = -1
  · subst c
    obtain ⟨h', e1, e2⟩ := year_c1 a hv hc
    obtain ⟨m', f1, f2⟩ := yearOf_1 a hr hv
    rw [if_pos rfl, if_pos rfl, e1, f1]
    exact ⟨_, h', m', rfl, rfl, ρ, f2.1, hv, e2⟩
  · rw [if_neg c, if_neg c]
    rcases below_cases b (n := sp_P ρ) (by omega) with ⟨p, hp, rfl⟩ | h
    · obtain ⟨h', e1, e2⟩ := year_c2 a hv hc hp
      obtain ⟨m1, k1, k2⟩ := isPlace_y hr hv.1 hp
      obtain ⟨m', f1, f2⟩ := yearOf_2 a k2.1 hv hp
      rw [has_y hc.P.1 hp (by omega), Option.bind_some, if_pos rfl, e1, k1, Option.bind_some]; dsimp only
      rw [if_pos rfl, f1]
      exact ⟨_, h', m', rfl, rfl, ρ, f2.1, hv, e2⟩
    · obtain ⟨m1, k1, k2⟩ := isPlace_n hr hv.1 h
      rw [has_n hc.P.1 h, k1]
      exact ⟨_, hx, m1, rfl, rfl, ρ, k2.1, hv, hc⟩
