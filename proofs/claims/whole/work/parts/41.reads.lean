/-! ===== what stands and what is owed, in the class; the askings about it ===== -/
theorem first_le40 {q : Nat → Bool} {N : Nat} (hN : N ≤ 40) : sp_first q N ≤ 40 := by
  unfold sp_first
  by_cases c : sp_fs q N < N
  · rw [if_pos c]; omega
  · rw [if_neg c]; omega
theorem f0_le40 {ρ : fd_H} (hv : sp_V1 ρ) (p : Nat) : sp_f0 ρ p ≤ 40 := first_le40 (N_le hv)
theorem CX.by {h ρ : fd_H} (c : CX h ρ) (hv : sp_V1 ρ) {p n : Nat} (hp : p < sp_P ρ) (hn : n < 40) : fX5_isBy 46 (nI p) (nI n) h = some (decide (sp_f0 ρ p ≤ n)) := by
  have hb := P_le hv
  exact isBy_eq (N := sp_N ρ) (q := fun i => sp_fr ρ (sp_wm ρ) (sp_cl ρ) 8 i p) (by omega) hn (N_le hv) (fun i hi => (c.W.2 p hp i hi).2.2)
theorem CX.fst {h ρ : fd_H} (c : CX h ρ) (hv : sp_V1 ρ) {p : Nat} (hp : p < sp_P ρ) : fX5_firstOf 46 (nI p) h = some (sp_fI (sp_f0 ρ p)) := by
  have hb := P_le hv
  exact firstOf_eq (N := sp_N ρ) (q := fun i => sp_fr ρ (sp_wm ρ) (sp_cl ρ) 8 i p) (by omega) (N_le hv) (fun i hi => (c.W.2 p hp i hi).2.2)
theorem stand_c {h ρ : fd_H} {fi : Nat → Nat} {k d n : Nat} (hv1 : sp_V1 ρ) (hP : cx_P h ρ) (hD : cx_D h ρ) (hs : ∀ p n, p < sp_P ρ → n < 40 → fX5_isBy k (nI p) (nI n) h = some (decide (fi p ≤ n))) (hd : d < sp_D ρ) (hn : n < 40) : fX8_isStanding (nI d) (nI n) k h = some (sp_st ρ fi d (sp_f ρ d 3) n) := by
  have hb := P_le hv1
  have h3 := f3_le hd
  have h4 := f4_le hd
  unfold fX8_isStanding sp_st
  rw [show (3 : Int32) = nI 3 from rfl, factC hv1 hD hd (by omega), Option.bind_some, show (4 : Int32) = nI 4 from rfl, factC hv1 hD hd (by omega), Option.bind_some]
  by_cases c : sp_f ρ d 3 < sp_P ρ
  · rw [has_y hP.1 c (by omega), Option.bind_some, if_pos rfl, decide_eq_true c, Bool.true_and, hs _ _ c hn, Option.bind_some]
    by_cases c2 : sp_f ρ d 4 ≤ n
    · rw [if_neg (nI_nlt c2 (by omega)), decide_eq_true c2]
      cases decide (fi (sp_f ρ d 3) ≤ n) <;> rfl
    · rw [if_pos (nI_lt (by omega) (by omega)), decide_eq_false c2]; rfl
  · rw [has_n hP.1 (Or.inr (nI_le (by omega) (by omega))), decide_eq_false c]; rfl
theorem max_tab : ∀ x, x < 41 → ∀ y, y < 40 → fd_max 0 (nI x - nI y) = nI (x - y) := by decide +kernel
theorem sfor_c {h ρ : fd_H} {d p : Nat} (hv1 : sp_V1 ρ) (c : CX h ρ) (hd : d < sp_D ρ) (hp : p < 8) : fX8_nightsStood (nI d) (nI p) h = some (nI (sp_sf ρ (sp_f0 ρ) d p)) := by
  have hb := P_le hv1
  have h4 := f4_le hd
  have h40 := f0_le40 hv1 p
  unfold fX8_nightsStood fX8_nightsStood_L36 sp_sf
  rw [show (4 : Int32) = nI 4 from rfl, factC hv1 c.D hd (by omega), Option.bind_some]
  by_cases q : p < sp_P ρ
  · rw [has_y c.P.1 q (by omega), Option.bind_some, if_pos rfl, if_pos q, c.fst hv1 q, Option.bind_some]
    unfold sp_fI
    by_cases e : sp_f0 ρ p < 40
    · rw [if_pos e, if_neg (m1_ne (by omega)), Option.bind_some, max_tab _ (by omega) _ (by omega)]
    · rw [if_neg e, if_pos rfl, show (40 : Int32) = nI 40 from rfl, max_tab _ (by omega) _ (by omega), show sp_f0 ρ p = 40 by omega]
  · rw [has_n c.P.1 (Or.inr (nI_le (by omega) (by omega))), if_neg q]; rfl
theorem owes_c {h ρ : fd_H} {a n j : Nat} (hv1 : sp_V1 ρ) (c : CX h ρ) (ha : a < 6) (hn : n < 40) (hj : j < 2) : fX8_sumOf (nI a) (nI n) (nI j) h = some (nI (sp_ow ρ (sp_f0 ρ) j a n)) := by
  have hDb := D_le hv1
  refine lp0 (F := fun f v i => fX8_sumOf_L6 (nI a) (nI n) (nI j) h f v i) (fun i => nI (sp_sum (fun d => if sp_f ρ d j = a ∧ sp_st ρ (sp_f0 ρ) d (sp_f ρ d 3) n = true then sp_f ρ d 2 else 0) i)) (sp_D ρ) (by omega) ?_ ?_
  · intro f
    show fX8_sumOf_L6 (nI a) (nI n) (nI j) h (f + 1) (nI (sp_sum _ (sp_D ρ))) (nI (sp_D ρ)) = _
    rw [fX8_sumOf_L6]; dsimp only
    rw [c.D.1, if_pos (nI_le (Nat.le_refl _) (by omega))]
    rfl
  · intro f d hd
    have b0 := f0_le hd
    have b1 := f1_le hd
    show fX8_sumOf_L6 (nI a) (nI n) (nI j) h (f + 1) (nI (sp_sum (fun d => if sp_f ρ d j = a ∧ sp_st ρ (sp_f0 ρ) d (sp_f ρ d 3) n = true then sp_f ρ d 2 else 0) d)) (nI d) = fX8_sumOf_L6 (nI a) (nI n) (nI j) h f (nI (sp_sum (fun d => if sp_f ρ d j = a ∧ sp_st ρ (sp_f0 ρ) d (sp_f ρ d 3) n = true then sp_f ρ d 2 else 0) d + if sp_f ρ d j = a ∧ sp_st ρ (sp_f0 ρ) d (sp_f ρ d 3) n = true then sp_f ρ d 2 else 0)) (nI (d + 1))
    generalize sp_sum (fun d => if sp_f ρ d j = a ∧ sp_st ρ (sp_f0 ρ) d (sp_f ρ d 3) n = true then sp_f ρ d 2 else 0) d = S
    rw [fX8_sumOf_L6]; dsimp only
    have bj : sp_f ρ d j ≤ 5 := by rcases (show j = 0 ∨ j = 1 by omega) with rfl | rfl <;> assumption
    rw [c.D.1, if_neg (nI_ge hd (by omega)), factC hv1 c.D hd (by omega), Option.bind_some, show (2 : Int32) = nI 2 from rfl, factC hv1 c.D hd (by omega), Option.bind_some, stand_c hv1 c.P c.D (fun p n hp hn => c.by hv1 hp hn) hd hn, Option.bind_some, fd_lt, nI_add, nI_1]
    by_cases e : sp_f ρ d j = a
    · rw [if_pos (by rw [e])]
      cases e2 : sp_st ρ (sp_f0 ρ) d (sp_f ρ d 3) n
      · rw [if_neg (by decide), if_neg (fun q => Bool.noConfusion q.2)]; rfl
      · rw [if_pos rfl, if_pos ⟨e, rfl⟩]
    · rw [if_neg (nI_ne e (by omega) (by omega)), if_neg (fun q => e q.1)]; rfl
theorem q_first : pp_first RR := by
  intro hx hm a ⟨ρ, hr, hv, hc⟩
  have hb := P_le hv.1
  unfold fX8_first fX9_first
  rcases below_cases a (n := sp_P ρ) (by omega) with ⟨p, hp, rfl⟩ | h
  · obtain ⟨m1, e1, h1⟩ := isPlace_y hr hv.1 hp
    obtain ⟨m2, e2, h2, h3⟩ := laysTold_eq h1.1 hv.1 hv.2.1
    rw [e1, Option.bind_some, has_y hc.P.1 hp (by omega), Option.bind_some, if_pos rfl, hc.fst hv.1 hp]; dsimp only
    unfold fX9_firstOf
    rw [if_pos rfl, e2, Option.bind_some]
    simp only [Option.bind_some]
    rw [in_nI (by omega : p < 8) (by omega), fd_g, if_pos rfl, nI_clamp (by omega), h3 p hp]
    exact ⟨_, m2, rfl, rfl, ρ, h2.1, hv, hc⟩
  · obtain ⟨m', e, h3⟩ := isPlace_n hr hv.1 h
    rw [e, Option.bind_some, has_n hc.P.1 h]
    exact ⟨_, m', rfl, rfl, ρ, h3.1, hv, hc⟩
def sp_had (ρ : fd_H) (n : Nat) : Int32 := sp_or (fun p => decide (p < sp_P ρ) && decide (sp_f0 ρ p ≤ n)) (sp_P ρ)
theorem hadOf_eq {m ρ : fd_H} {n : Nat} (hr : sp_raw m = ρ) (hv : sp_V ρ) (hn : n < 40) : ∃ m', fX9_hadOf (nI n) m = some (sp_had ρ n, m') ∧ mt m' ρ (sp_wm ρ) (sp_cl ρ) 8 := by
  have hb := P_le hv.1
  obtain ⟨m2, e2, h2, h3⟩ := laysTold_eq hr hv.1 hv.2.1
  refine ⟨m2, ?_, h2⟩
  unfold fX9_hadOf
  rw [e2, Option.bind_some]
  refine lp0 (F := fun f v i => fX9_hadOf_L8 (nI n) f v i m2) (fun i => sp_or (fun p => decide (p < sp_P ρ) && decide (sp_f0 ρ p ≤ n)) i) (sp_P ρ) (by omega) ?_ ?_
  · intro f
    show fX9_hadOf_L8 (nI n) (f + 1) (sp_or _ (sp_P ρ)) (nI (sp_P ρ)) m2 = _
    rw [fX9_hadOf_L8]; dsimp only
    rw [h2.2.1.1, if_pos (nI_le (Nat.le_refl _) (by omega))]
    rfl
  · intro f i hi
    show fX9_hadOf_L8 (nI n) (f + 1) (sp_or (fun p => decide (p < sp_P ρ) && decide (sp_f0 ρ p ≤ n)) i) (nI i) m2 = fX9_hadOf_L8 (nI n) f (if (decide (i < sp_P ρ) && decide (sp_f0 ρ i ≤ n)) = true then sp_or (fun p => decide (p < sp_P ρ) && decide (sp_f0 ρ p ≤ n)) i ||| ((1 : Int32) <<< (nI i &&& 31)) else sp_or (fun p => decide (p < sp_P ρ) && decide (sp_f0 ρ p ≤ n)) i) (nI (i + 1)) m2
    rw [fX9_hadOf_L8]; dsimp only
    unfold fX9_hadOf_L33
    rw [h2.2.1.1, if_neg (nI_ge hi (by omega)), had_m hb h2.2.1 h3 (by omega) hn, Option.bind_some, fd_lt, fd_lt, nI_1, Int32.or_zero]
    cases (decide (i < sp_P ρ) && decide (sp_f0 ρ i ≤ n)) <;> rfl
theorem had_c {h ρ : fd_H} {n : Nat} (hv : sp_V1 ρ) (c : CX h ρ) (hn : n < 40) : fX8_had (nI n) h = some (sp_had ρ n) := by
  have hb := P_le hv
  unfold fX8_had
  rw [show (40 : Int32) = nI 40 from rfl, below_y hn (by omega), Option.bind_some, if_pos rfl]
  refine lp0 (F := fun f v i => fX8_had_L16 (nI n) h f v i) (fun i => sp_or (fun p => decide (p < sp_P ρ) && decide (sp_f0 ρ p ≤ n)) i) (sp_P ρ) (by omega) ?_ ?_
  · intro f
    show fX8_had_L16 (nI n) h (f + 1) (sp_or _ (sp_P ρ)) (nI (sp_P ρ)) = _
    rw [fX8_had_L16]; dsimp only
    rw [c.P.1, if_pos (nI_le (Nat.le_refl _) (by omega))]
    rfl
  · intro f i hi
    show fX8_had_L16 (nI n) h (f + 1) (sp_or (fun p => decide (p < sp_P ρ) && decide (sp_f0 ρ p ≤ n)) i) (nI i) = fX8_had_L16 (nI n) h f (if (decide (i < sp_P ρ) && decide (sp_f0 ρ i ≤ n)) = true then sp_or (fun p => decide (p < sp_P ρ) && decide (sp_f0 ρ p ≤ n)) i ||| ((1 : Int32) <<< (nI i &&& 31)) else sp_or (fun p => decide (p < sp_P ρ) && decide (sp_f0 ρ p ≤ n)) i) (nI (i + 1))
    rw [fX8_had_L16]; dsimp only
    rw [c.P.1, if_neg (nI_ge hi (by omega)), c.by hv hi hn, Option.bind_some, fd_lt, nI_1, decide_eq_true hi, Bool.true_and]
    cases decide (sp_f0 ρ i ≤ n) <;> rfl
theorem q_had : pp_had RR := by
  intro hx hm a ⟨ρ, hr, hv, hc⟩
  rcases below_cases a (n := 40) (by omega) with ⟨n, hn, rfl⟩ | h
  · obtain ⟨m', e, h⟩ := hadOf_eq hr hv hn
    rw [had_c hv.1 hc hn]
    unfold fX9_had
    rw [isForty_y hn, Option.bind_some, if_pos rfl, e]
    exact ⟨_, m', rfl, rfl, ρ, h.1, hv, hc⟩
  · unfold fX8_had fX9_had
    rw [show (40 : Int32) = nI 40 from rfl, below_n h, isForty_n h]
    exact ⟨_, hm, rfl, rfl, ρ, hr, hv, hc⟩
theorem q_stands : pp_stands RR := by
  intro hx hm a b ⟨ρ, hr, hv, hc⟩
  have hb := D_le hv.1
  unfold fX8_stands fX9_stands
  rw [hc.D.1, show (40 : Int32) = nI 40 from rfl]
  rcases below_cases a (n := sp_D ρ) (by omega) with ⟨d, hd, rfl⟩ | h
  · obtain ⟨m1, e1, h1⟩ := isDebt_y hr hv.1 hd
    have h3 := f3_le hd
    rw [e1, Option.bind_some, below_y hd (by omega), Option.bind_some, if_pos rfl]; dsimp only
    rw [if_pos rfl]
    rcases below_cases b (n := 40) (by omega) with ⟨n, hn, rfl⟩ | h2
    · obtain ⟨m2, e2, g1, g2⟩ := laysTold_eq h1.1 hv.1 hv.2.1
      rw [below_y hn (by omega), isForty_y hn, Option.bind_some, Option.bind_some, if_pos rfl, if_pos rfl, stand_c hv.1 hc.P hc.D (fun p n hp hn => hc.by hv.1 hp hn) hd hn, Option.bind_some]
      unfold fX9_standsOf
      rw [e2]
      simp only [Option.bind_some]
      rw [in_nI (by omega : d < 10) (by omega), fd_g, if_pos rfl, nI_clamp (by omega), (g1.2.2.2.1.2 d hd).2.2.2.1, stand_m hv.1 g1.2.1 g1.2.2.2.1 g2 hd (by omega) hn, Option.bind_some]
      cases sp_st ρ (sp_f0 ρ) d (sp_f ρ d 3) n
      · exact ⟨_, m2, rfl, rfl, ρ, g1.1, hv, hc⟩
      · exact ⟨_, m2, rfl, rfl, ρ, g1.1, hv, hc⟩
    · rw [below_n h2, isForty_n h2]
      exact ⟨_, m1, rfl, rfl, ρ, h1.1, hv, hc⟩
  · obtain ⟨m', e, h3⟩ := isDebt_n hr hv.1 h
    rw [e, Option.bind_some, below_n h]
    exact ⟨_, m', rfl, rfl, ρ, h3.1, hv, hc⟩
