/-! ===== the askings about debts ===== -/
def sp_nt (ρ : fd_H) (d : Nat) : Bool := !decide (sp_f ρ d 3 < sp_P ρ) || (decide (sp_f0 ρ (sp_f ρ d 3) < 40) && !decide (sp_f ρ d 4 ≤ sp_f0 ρ (sp_f ρ d 3)))
def sp_la (ρ : fd_H) (d j : Nat) : Int32 := if j = 0 then nI (sp_sf ρ (sp_f0 ρ) d (sp_f ρ d 3)) else if sp_nt ρ d = true then 1 else 0
theorem lastsOf_eq {m ρ : fd_H} {d j : Nat} (hr : sp_raw m = ρ) (hv : sp_V ρ) (hd : d < sp_D ρ) (hj : j < 2) : ∃ m', fX9_lastsOf (nI d) (nI j) m = some (sp_la ρ d j, m') ∧ mt m' ρ (sp_wm ρ) (sp_cl ρ) 8 := by
  have hb := P_le hv.1
  have hDb := D_le hv.1
  have h3 := f3_le hd
  have h4 := f4_le hd
  obtain ⟨m2, e2, g1, g2⟩ := laysTold_eq hr hv.1 hv.2.1
  refine ⟨m2, ?_, g1⟩
  have gd := g1.2.2.2.1.2 d hd
  have fin : ∀ b, fX9_lastsOf_L49 (nI d) (nI j) (nI (sp_f ρ d 3)) b m2 = some (if j = 0 then nI (sp_sf ρ (sp_f0 ρ) d (sp_f ρ d 3)) else if b = true then 1 else 0, m2) := by
    intro b
    unfold fX9_lastsOf_L49
    rw [sfor_m hv.1 g1.2.1 g1.2.2.2.1 g2 (fun p _ => f0_le40 hv.1 p) hd (by omega), Option.bind_some]
    rcases (show j = 0 ∨ j = 1 by omega) with rfl | rfl
    · rfl
    · cases b <;> rfl
  unfold fX9_lastsOf fX9_lastsOf_L48 sp_la sp_nt
  rw [e2]
  simp only [Option.bind_some]
  rw [in_nI (by omega : d < 10) (by omega), fd_g, if_pos rfl, fd_lt, nI_clamp (by omega), gd.2.2.2.1, g1.2.1.1, fin, fin, gd.2.2.2.2]
  by_cases c : sp_f ρ d 3 < sp_P ρ
  · rw [if_neg (nI_ge c (by omega)), in_nI (by omega) (by omega), fd_g, if_pos rfl, fd_g, if_pos rfl, fd_g, if_pos rfl, nI_clamp (by omega), g2 _ c, decide_eq_true c, Bool.not_true, Bool.false_or]
    unfold sp_fI
    by_cases c2 : sp_f0 ρ (sp_f ρ d 3) < 40
    · rw [if_pos c2, if_neg (m1_ne (by omega)), decide_eq_true c2, Bool.true_and]
      by_cases c3 : sp_f ρ d 4 ≤ sp_f0 ρ (sp_f ρ d 3)
      · rw [if_pos (nI_le c3 (by omega)), decide_eq_true c3]; rfl
      · rw [if_neg (nI_ge (by omega) (by omega)), decide_eq_false c3]; rfl
    · rw [if_neg c2, if_pos rfl, decide_eq_false c2]; rfl
  · rw [if_pos (nI_le (by omega) (by omega)), decide_eq_false c]; rfl
theorem lasts_c {h ρ : fd_H} {d j : Nat} (hv : sp_V1 ρ) (c : CX h ρ) (hd : d < sp_D ρ) (hj : j < 2) : fX8_lasts (nI d) (nI j) h = some (sp_la ρ d j) := by
  have hb := P_le hv
  have hDb := D_le hv
  have h3 := f3_le hd
  have h4 := f4_le hd
  have nt : fX8_isNothing (nI d) h = some (sp_nt ρ d) := by
    unfold fX8_isNothing sp_nt
    rw [show (3 : Int32) = nI 3 from rfl, factC hv c.D hd (by omega), Option.bind_some, show (4 : Int32) = nI 4 from rfl, factC hv c.D hd (by omega)]
    simp only [Option.bind_some]
    by_cases e : sp_f ρ d 3 < sp_P ρ
    · rw [has_y c.P.1 e (by omega), Option.bind_some, if_pos rfl, c.fst hv e, Option.bind_some, decide_eq_true e, Bool.not_true, Bool.false_or]
      unfold sp_fI
      by_cases c2 : sp_f0 ρ (sp_f ρ d 3) < 40
      · rw [if_pos c2, if_neg (m1_ne (by omega)), decide_eq_true c2, Bool.true_and]
        by_cases c3 : sp_f ρ d 4 ≤ sp_f0 ρ (sp_f ρ d 3)
        · rw [if_pos (nI_le c3 (by omega)), decide_eq_true c3]; rfl
        · rw [if_neg (nI_ge (by omega) (by omega)), decide_eq_false c3]; rfl
      · rw [if_neg c2, if_pos rfl, decide_eq_false c2]; rfl
    · rw [has_n c.P.1 (Or.inr (nI_le (by omega) (by omega))), decide_eq_false e]; rfl
  unfold fX8_lasts sp_la
  rw [c.D.1, below_y hd (by omega), Option.bind_some, if_pos rfl, show (2 : Int32) = nI 2 from rfl, below_y hj (by omega), Option.bind_some, if_pos rfl, nt, Option.bind_some, show (3 : Int32) = nI 3 from rfl, factC hv c.D hd (by omega), Option.bind_some, sfor_c hv c hd (by omega), Option.bind_some]
  rcases (show j = 0 ∨ j = 1 by omega) with rfl | rfl
  · rfl
  · cases sp_nt ρ d <;> rfl
theorem q_lasts : pp_lasts RR := by
  intro hx hm a b ⟨ρ, hr, hv, hc⟩
  have hb := D_le hv.1
  unfold fX9_lasts
  rw [show (1 : Int32) = nI 1 from rfl]
  rcases below_cases a (n := sp_D ρ) (by omega) with ⟨d, hd, rfl⟩ | h
  · obtain ⟨m1, e1, h1⟩ := isDebt_y hr hv.1 hd
    rw [e1, Option.bind_some]; dsimp only
    rw [if_pos rfl]
    rcases below_cases b (n := 2) (by omega) with ⟨j, hj, rfl⟩ | h2
    · obtain ⟨m2, e2, g1⟩ := lastsOf_eq h1.1 hv hd hj
      rw [lasts_c hv.1 hc hd hj, mbelow_y (by omega) (by omega), Option.bind_some, if_pos rfl, e2]
      exact ⟨_, m2, rfl, rfl, ρ, g1.1, hv, hc⟩
    · unfold fX8_lasts
      rw [hc.D.1, below_y hd (by omega), Option.bind_some, if_pos rfl, show (2 : Int32) = nI 2 from rfl, below_n h2, mbelow_n (by omega) h2]
      exact ⟨_, m1, rfl, rfl, ρ, h1.1, hv, hc⟩
  · obtain ⟨m', e, h3⟩ := isDebt_n hr hv.1 h
    unfold fX8_lasts
    rw [e, Option.bind_some, hc.D.1, below_n h]
    exact ⟨_, m', rfl, rfl, ρ, h3.1, hv, hc⟩
def sp_nv (ρ : fd_H) : Int32 := sp_or (fun d => sp_st ρ (sp_f0 ρ) d (sp_f ρ d 3) 39) (sp_D ρ)
theorem neverNow_eq {m ρ : fd_H} (hr : sp_raw m = ρ) (hv : sp_V ρ) : ∃ m', fX9_neverNow m = some (sp_nv ρ, m') ∧ mt m' ρ (sp_wm ρ) (sp_cl ρ) 8 := by
  have hb := D_le hv.1
  obtain ⟨m2, e2, g1, g2⟩ := laysTold_eq hr hv.1 hv.2.1
  refine ⟨m2, ?_, g1⟩
  unfold fX9_neverNow
  rw [e2, Option.bind_some]
  refine lp0 (F := fun f v i => fX9_neverNow_L8 f v i m2) (fun i => sp_or (fun d => sp_st ρ (sp_f0 ρ) d (sp_f ρ d 3) 39) i) (sp_D ρ) (by omega) ?_ ?_
  · intro f
    show fX9_neverNow_L8 (f + 1) (sp_or _ (sp_D ρ)) (nI (sp_D ρ)) m2 = _
    rw [fX9_neverNow_L8]; dsimp only
    rw [g1.2.2.2.1.1, if_pos (nI_le (Nat.le_refl _) (by omega))]
    rfl
  · intro f i hi
    have h3 := f3_le hi
    show fX9_neverNow_L8 (f + 1) (sp_or (fun d => sp_st ρ (sp_f0 ρ) d (sp_f ρ d 3) 39) i) (nI i) m2 = fX9_neverNow_L8 f (if sp_st ρ (sp_f0 ρ) i (sp_f ρ i 3) 39 = true then sp_or (fun d => sp_st ρ (sp_f0 ρ) d (sp_f ρ d 3) 39) i ||| ((1 : Int32) <<< (nI i &&& 31)) else sp_or (fun d => sp_st ρ (sp_f0 ρ) d (sp_f ρ d 3) 39) i) (nI (i + 1)) m2
    rw [fX9_neverNow_L8]; dsimp only
    unfold fX9_neverNow_L40
    rw [g1.2.2.2.1.1, if_neg (nI_ge hi (by omega)), in_nI (by omega) (by omega), fd_g, if_pos rfl, nI_clamp (by omega), (g1.2.2.2.1.2 i hi).2.2.2.1, show (39 : Int32) = nI 39 from rfl, stand_m hv.1 g1.2.1 g1.2.2.2.1 g2 hi (by omega) (by omega), Option.bind_some, fd_lt, fd_lt, nI_1, Int32.or_zero]
    cases sp_st ρ (sp_f0 ρ) i (sp_f ρ i 3) 39 <;> rfl
theorem never_c {h ρ : fd_H} (hv : sp_V1 ρ) (c : CX h ρ) : fX8_never h = some (sp_nv ρ) := by
  have hb := D_le hv
  refine lp0 (F := fun f v i => fX8_never_L4 h f v i) (fun i => sp_or (fun d => sp_st ρ (sp_f0 ρ) d (sp_f ρ d 3) 39) i) (sp_D ρ) (by omega) ?_ ?_
  · intro f
    show fX8_never_L4 h (f + 1) (sp_or _ (sp_D ρ)) (nI (sp_D ρ)) = _
    rw [fX8_never_L4]; dsimp only
    rw [c.D.1, if_pos (nI_le (Nat.le_refl _) (by omega))]
    rfl
  · intro f i hi
    show fX8_never_L4 h (f + 1) (sp_or (fun d => sp_st ρ (sp_f0 ρ) d (sp_f ρ d 3) 39) i) (nI i) = fX8_never_L4 h f (if sp_st ρ (sp_f0 ρ) i (sp_f ρ i 3) 39 = true then sp_or (fun d => sp_st ρ (sp_f0 ρ) d (sp_f ρ d 3) 39) i ||| ((1 : Int32) <<< (nI i &&& 31)) else sp_or (fun d => sp_st ρ (sp_f0 ρ) d (sp_f ρ d 3) 39) i) (nI (i + 1))
    rw [fX8_never_L4]; dsimp only
    rw [c.D.1, if_neg (nI_ge hi (by omega)), show (39 : Int32) = nI 39 from rfl, stand_c hv c.P c.D (fun p n hp hn => c.by hv hp hn) hi (by omega), Option.bind_some, fd_lt, nI_1]
    cases sp_st ρ (sp_f0 ρ) i (sp_f ρ i 3) 39 <;> rfl
theorem q_never : pp_never RR := by
  intro hx hm ⟨ρ, hr, hv, hc⟩
  obtain ⟨m', e, h⟩ := neverNow_eq hr hv
  unfold fX9_never
  rw [never_c hv.1 hc, e]
  exact ⟨_, m', rfl, rfl, ρ, h.1, hv, hc⟩
theorem ow_le {ρ : fd_H} {fi : Nat → Nat} {j a n : Nat} (hv : sp_V1 ρ) : sp_ow ρ fi j a n ≤ 891 := by
  have hb := D_le hv
  have h := sum_le (f := fun d => if sp_f ρ d j = a ∧ sp_st ρ fi d (sp_f ρ d 3) n = true then sp_f ρ d 2 else 0) (c := 99) (n := sp_D ρ) (fun d hd => by
    show (if _ then _ else _) ≤ 99
    have := f2_rng hd
    split <;> omega)
  unfold sp_ow
  omega
theorem owesOf_eq {m ρ : fd_H} {a n j : Nat} (hr : sp_raw m = ρ) (hv : sp_V ρ) (ha : a < 6) (hn : n < 40) (hj : j < 2) : ∃ m', fX9_owesOf (nI a) (nI n) (nI j) m = some (nI (sp_ow ρ (sp_f0 ρ) j a n), m') ∧ mt m' ρ (sp_wm ρ) (sp_cl ρ) 8 := by
  obtain ⟨m2, e2, g1, g2⟩ := laysTold_eq hr hv.1 hv.2.1
  refine ⟨m2, ?_, g1⟩
  unfold fX9_owesOf
  rw [e2]
  simp only [Option.bind_some]
  rw [owes_m hv.1 g1.2.1 g1.2.2.2.1 g2 ha hn hj]
  rfl
theorem owes_cc {h ρ : fd_H} {a n j : Nat} (hv : sp_V1 ρ) (c : CX h ρ) (ha : a < 6) (hn : n < 40) (hj : j < 2) : fX8_owes (nI a) (nI n) (nI j) h = some (nI (sp_ow ρ (sp_f0 ρ) j a n)) := by
  unfold fX8_owes fX8_owes_L41
  rw [show (6 : Int32) = nI 6 from rfl, below_y ha (by omega), Option.bind_some, if_pos rfl, show (40 : Int32) = nI 40 from rfl, below_y hn (by omega), Option.bind_some, if_pos rfl, show (2 : Int32) = nI 2 from rfl, below_y hj (by omega), Option.bind_some, if_pos rfl, show fd_b false = nI 0 from rfl, show fd_b true = nI 1 from rfl, owes_c hv c ha hn (by omega), owes_c hv c ha hn (by omega)]
  rcases (show j = 0 ∨ j = 1 by omega) with rfl | rfl
  · rfl
  · rfl
theorem q_owes : pp_owes RR := by
  intro hx hm a b j ⟨ρ, hr, hv, hc⟩
  unfold fX9_owes
  rw [show (5 : Int32) = nI 5 from rfl, show (1 : Int32) = nI 1 from rfl]
  rcases below_cases a (n := 6) (by omega) with ⟨a, ha, rfl⟩ | h
  · rw [mbelow_y (by omega) (by omega), Option.bind_some, if_pos rfl]
    rcases below_cases b (n := 40) (by omega) with ⟨n, hn, rfl⟩ | h2
    · rw [isForty_y hn, Option.bind_some, if_pos rfl]
      rcases below_cases j (n := 2) (by omega) with ⟨j, hj, rfl⟩ | h3
      · obtain ⟨m2, e2, g1⟩ := owesOf_eq hr hv ha hn hj
        rw [owes_cc hv.1 hc ha hn hj, mbelow_y (by omega) (by omega), Option.bind_some, if_pos rfl, e2]
        exact ⟨_, m2, rfl, rfl, ρ, g1.1, hv, hc⟩
      · unfold fX8_owes
        rw [show (6 : Int32) = nI 6 from rfl, below_y ha (by omega), Option.bind_some, if_pos rfl, show (40 : Int32) = nI 40 from rfl, below_y hn (by omega), Option.bind_some, if_pos rfl, show (2 : Int32) = nI 2 from rfl, below_n h3, mbelow_n (by omega) h3]
        exact ⟨_, hm, rfl, rfl, ρ, hr, hv, hc⟩
    · unfold fX8_owes
      rw [show (6 : Int32) = nI 6 from rfl, below_y ha (by omega), Option.bind_some, if_pos rfl, show (40 : Int32) = nI 40 from rfl, below_n h2, isForty_n h2]
      exact ⟨_, hm, rfl, rfl, ρ, hr, hv, hc⟩
  · unfold fX8_owes
    rw [show (6 : Int32) = nI 6 from rfl, below_n h, mbelow_n (by omega) h]
    exact ⟨_, hm, rfl, rfl, ρ, hr, hv, hc⟩
def sp_hg (ρ : fd_H) (n : Nat) : Int32 := sp_or (fun a => !decide (sp_ow ρ (sp_f0 ρ) 0 a n ≤ sp_ow ρ (sp_f0 ρ) 1 a n)) 6
theorem hangsOf_eq {m ρ : fd_H} {n : Nat} (hr : sp_raw m = ρ) (hv : sp_V ρ) (hn : n < 40) : ∃ m', fX9_hangsOf (nI n) m = some (sp_hg ρ n, m') ∧ mt m' ρ (sp_wm ρ) (sp_cl ρ) 8 := by
  obtain ⟨m2, e2, g1, g2⟩ := laysTold_eq hr hv.1 hv.2.1
  refine ⟨m2, ?_, g1⟩
  unfold fX9_hangsOf
  rw [e2, Option.bind_some]
  refine lp0 (F := fun f v i => fX9_hangsOf_L8 (nI n) f v i m2) (fun i => sp_or (fun a => !decide (sp_ow ρ (sp_f0 ρ) 0 a n ≤ sp_ow ρ (sp_f0 ρ) 1 a n)) i) 6 (by omega) ?_ ?_
  · intro f
    show fX9_hangsOf_L8 (nI n) (f + 1) (sp_or _ 6) (nI 6) m2 = _
    rw [fX9_hangsOf_L8]; dsimp only
    rw [show (6 : Int32) = nI 6 from rfl, if_pos (nI_le (Nat.le_refl _) (by omega))]
    rfl
  · intro f i hi
    have l0 := ow_le (ρ := ρ) (fi := sp_f0 ρ) (j := 0) (a := i) (n := n) hv.1
    have l1 := ow_le (ρ := ρ) (fi := sp_f0 ρ) (j := 1) (a := i) (n := n) hv.1
    show fX9_hangsOf_L8 (nI n) (f + 1) (sp_or (fun a => !decide (sp_ow ρ (sp_f0 ρ) 0 a n ≤ sp_ow ρ (sp_f0 ρ) 1 a n)) i) (nI i) m2 = fX9_hangsOf_L8 (nI n) f (if (!decide (sp_ow ρ (sp_f0 ρ) 0 i n ≤ sp_ow ρ (sp_f0 ρ) 1 i n)) = true then sp_or (fun a => !decide (sp_ow ρ (sp_f0 ρ) 0 a n ≤ sp_ow ρ (sp_f0 ρ) 1 a n)) i ||| ((1 : Int32) <<< (nI i &&& 31)) else sp_or (fun a => !decide (sp_ow ρ (sp_f0 ρ) 0 a n ≤ sp_ow ρ (sp_f0 ρ) 1 a n)) i) (nI (i + 1)) m2
    rw [fX9_hangsOf_L8]; dsimp only
    unfold fX9_hangsOf_L39
    rw [show (6 : Int32) = nI 6 from rfl, if_neg (nI_ge hi (by omega)), show (0 : Int32) = nI 0 from rfl, owes_m hv.1 g1.2.1 g1.2.2.2.1 g2 hi hn (by omega), Option.bind_some, show fX9_owesNow (nI i) (nI n) 1 m2 = fX9_owesNow (nI i) (nI n) (nI 1) m2 from rfl, owes_m hv.1 g1.2.1 g1.2.2.2.1 g2 hi hn (by omega), Option.bind_some, fd_lt, fd_lt, nI_1, show nI 0 = 0 from rfl, Int32.or_zero]
    by_cases c : sp_ow ρ (sp_f0 ρ) 0 i n ≤ sp_ow ρ (sp_f0 ρ) 1 i n
    · rw [if_pos (nI_le c (by omega)), decide_eq_true c]; rfl
    · rw [if_neg (nI_ge (by omega) (by omega)), decide_eq_false c]; rfl
theorem hangs_c {h ρ : fd_H} {n : Nat} (hv : sp_V1 ρ) (c : CX h ρ) (hn : n < 40) : fX8_hangs (nI n) h = some (sp_hg ρ n) := by
  unfold fX8_hangs
  rw [show (40 : Int32) = nI 40 from rfl, below_y hn (by omega), Option.bind_some, if_pos rfl]
  refine lp0 (F := fun f v i => fX8_hangs_L16 (nI n) h f v i) (fun i => sp_or (fun a => !decide (sp_ow ρ (sp_f0 ρ) 0 a n ≤ sp_ow ρ (sp_f0 ρ) 1 a n)) i) 6 (by omega) ?_ ?_
  · intro f
    show fX8_hangs_L16 (nI n) h (f + 1) (sp_or _ 6) (nI 6) = _
    rw [fX8_hangs_L16]; dsimp only
    rw [show (6 : Int32) = nI 6 from rfl, if_pos (nI_le (Nat.le_refl _) (by omega))]
    rfl
  · intro f i hi
    have l0 := ow_le (ρ := ρ) (fi := sp_f0 ρ) (j := 0) (a := i) (n := n) hv
    have l1 := ow_le (ρ := ρ) (fi := sp_f0 ρ) (j := 1) (a := i) (n := n) hv
    show fX8_hangs_L16 (nI n) h (f + 1) (sp_or (fun a => !decide (sp_ow ρ (sp_f0 ρ) 0 a n ≤ sp_ow ρ (sp_f0 ρ) 1 a n)) i) (nI i) = fX8_hangs_L16 (nI n) h f (if (!decide (sp_ow ρ (sp_f0 ρ) 0 i n ≤ sp_ow ρ (sp_f0 ρ) 1 i n)) = true then sp_or (fun a => !decide (sp_ow ρ (sp_f0 ρ) 0 a n ≤ sp_ow ρ (sp_f0 ρ) 1 a n)) i ||| ((1 : Int32) <<< (nI i &&& 31)) else sp_or (fun a => !decide (sp_ow ρ (sp_f0 ρ) 0 a n ≤ sp_ow ρ (sp_f0 ρ) 1 a n)) i) (nI (i + 1))
    rw [fX8_hangs_L16]; dsimp only
    rw [show (6 : Int32) = nI 6 from rfl, if_neg (nI_ge hi (by omega)), show (0 : Int32) = nI 0 from rfl, owes_c hv c hi hn (by omega), Option.bind_some, show fX8_sumOf (nI i) (nI n) 1 h = fX8_sumOf (nI i) (nI n) (nI 1) h from rfl, owes_c hv c hi hn (by omega), Option.bind_some, fd_lt, nI_1]
    by_cases e : sp_ow ρ (sp_f0 ρ) 0 i n ≤ sp_ow ρ (sp_f0 ρ) 1 i n
    · rw [if_pos (nI_le e (by omega)), decide_eq_true e]; rfl
    · rw [if_neg (nI_ge (by omega) (by omega)), decide_eq_false e]; rfl
theorem q_hangs : pp_hangs RR := by
  intro hx hm a ⟨ρ, hr, hv, hc⟩
  rcases below_cases a (n := 40) (by omega) with ⟨n, hn, rfl⟩ | h
  · obtain ⟨m', e, h⟩ := hangsOf_eq hr hv hn
    rw [hangs_c hv.1 hc hn]
    unfold fX9_hangs
    rw [isForty_y hn, Option.bind_some, if_pos rfl, e]
    exact ⟨_, m', rfl, rfl, ρ, h.1, hv, hc⟩
  · unfold fX8_hangs fX9_hangs
    rw [show (40 : Int32) = nI 40 from rfl, below_n h, isForty_n h]
    exact ⟨_, hm, rfl, rfl, ρ, hr, hv, hc⟩
