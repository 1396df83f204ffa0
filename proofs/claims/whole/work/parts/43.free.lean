/-! ===== free and where ===== -/
def sp_fx (ρ : fd_H) (a c : Nat) : Nat → Nat
  | 0 => c
  | d + 1 => if sp_f ρ d 0 = a ∧ 0 < sp_sf ρ (sp_f0 ρ) d (sp_f ρ d 3) then max (sp_fx ρ a c d) (sp_f ρ d 4 + sp_sf ρ (sp_f0 ρ) d (sp_f ρ d 3)) else sp_fx ρ a c d
theorem fx_ge (ρ : fd_H) (a c : Nat) : ∀ n, c ≤ sp_fx ρ a c n ∧ ∀ d, d < n → sp_f ρ d 0 = a → 0 < sp_sf ρ (sp_f0 ρ) d (sp_f ρ d 3) → sp_f ρ d 4 + sp_sf ρ (sp_f0 ρ) d (sp_f ρ d 3) ≤ sp_fx ρ a c n
  | 0 => ⟨Nat.le_refl _, fun d h => absurd h (Nat.not_lt_zero d)⟩
  | n + 1 => by
    obtain ⟨h1, h2⟩ := fx_ge ρ a c n
    unfold sp_fx
    by_cases q : sp_f ρ n 0 = a ∧ 0 < sp_sf ρ (sp_f0 ρ) n (sp_f ρ n 3)
    · rw [if_pos q]
      refine ⟨by omega, fun d hd e1 e2 => ?_⟩
      rcases Nat.lt_or_ge d n with r | r
      · have := h2 d r e1 e2; omega
      · have : d = n := by omega
        subst this; omega
    · rw [if_neg q]
      refine ⟨h1, fun d hd e1 e2 => ?_⟩
      rcases Nat.lt_or_ge d n with r | r
      · exact h2 d r e1 e2
      · have : d = n := by omega
        subst this; exact absurd ⟨e1, e2⟩ q
theorem fx_at (ρ : fd_H) (a c : Nat) : ∀ n, sp_fx ρ a c n = c ∨ ∃ d, d < n ∧ sp_f ρ d 0 = a ∧ 0 < sp_sf ρ (sp_f0 ρ) d (sp_f ρ d 3) ∧ sp_fx ρ a c n = sp_f ρ d 4 + sp_sf ρ (sp_f0 ρ) d (sp_f ρ d 3)
  | 0 => Or.inl rfl
  | n + 1 => by
    have ih := fx_at ρ a c n
    unfold sp_fx
    by_cases q : sp_f ρ n 0 = a ∧ 0 < sp_sf ρ (sp_f0 ρ) n (sp_f ρ n 3)
    · rw [if_pos q]
      rcases Nat.le_total (sp_fx ρ a c n) (sp_f ρ n 4 + sp_sf ρ (sp_f0 ρ) n (sp_f ρ n 3)) with r | r
      · exact Or.inr ⟨n, Nat.lt_succ_self n, q.1, q.2, Nat.max_eq_right r⟩
      · rw [Nat.max_eq_left r]
        rcases ih with e | ⟨d, d1, d2, d3, d4⟩
        · exact Or.inl e
        · exact Or.inr ⟨d, by omega, d2, d3, d4⟩
    · rw [if_neg q]
      rcases ih with e | ⟨d, d1, d2, d3, d4⟩
      · exact Or.inl e
      · exact Or.inr ⟨d, by omega, d2, d3, d4⟩
theorem sum_zero {f : Nat → Nat} : ∀ {n : Nat}, (∀ j, j < n → f j = 0) → sp_sum f n = 0
  | 0, _ => rfl
  | n + 1, h => by
    unfold sp_sum
    rw [sum_zero (fun j hj => h j (by omega)), h n (Nat.lt_succ_self n)]
theorem sum_ge {f : Nat → Nat} : ∀ {n j : Nat}, j < n → f j ≤ sp_sum f n
  | 0, j, h => absurd h (Nat.not_lt_zero j)
  | n + 1, j, h => by
    unfold sp_sum
    rcases Nat.lt_or_ge j n with q | q
    · have := sum_ge (f := f) q; omega
    · have : j = n := by omega
      subst this; omega
theorem sf_pos {ρ : fd_H} {d : Nat} {fi : Nat → Nat} {p : Nat} (h : 0 < sp_sf ρ fi d p) : p < sp_P ρ ∧ sp_f ρ d 4 + sp_sf ρ fi d p = fi p := by
  unfold sp_sf at h ⊢
  by_cases c : p < sp_P ρ
  · rw [if_pos c] at h ⊢
    exact ⟨c, by omega⟩
  · rw [if_neg c] at h; exact absurd h (Nat.lt_irrefl 0)
theorem fx_clear {ρ : fd_H} {a c n : Nat} (hn : sp_fx ρ a c (sp_D ρ) ≤ n) : sp_ow ρ (sp_f0 ρ) 0 a n = 0 := by
  refine sum_zero (fun d hd => if_neg ?_)
  rintro ⟨e1, e2⟩
  unfold sp_st at e2
  simp only [Bool.and_eq_true, decide_eq_true_eq, Bool.not_eq_true', decide_eq_false_iff_not] at e2
  have hs : 0 < sp_sf ρ (sp_f0 ρ) d (sp_f ρ d 3) := by
    unfold sp_sf; rw [if_pos e2.1]; omega
  have := (fx_ge ρ a c (sp_D ρ)).2 d hd e1 hs
  have h2 := (sf_pos hs).2
  omega
theorem fx_owes {ρ : fd_H} {a c : Nat} (h : c < sp_fx ρ a c (sp_D ρ)) : 0 < sp_ow ρ (sp_f0 ρ) 0 a (sp_fx ρ a c (sp_D ρ) - 1) := by
  rcases fx_at ρ a c (sp_D ρ) with e | ⟨d, d1, d2, d3, d4⟩
  · omega
  · have h2 := sf_pos d3
    have hf := (f2_rng d1).1
    have hst : sp_st ρ (sp_f0 ρ) d (sp_f ρ d 3) (sp_fx ρ a c (sp_D ρ) - 1) = true := by
      unfold sp_st
      rw [decide_eq_true h2.1, decide_eq_true (by omega), decide_eq_false (by omega)]; rfl
    have := sum_ge (f := fun d => if sp_f ρ d 0 = a ∧ sp_st ρ (sp_f0 ρ) d (sp_f ρ d 3) (sp_fx ρ a c (sp_D ρ) - 1) = true then sp_f ρ d 2 else 0) d1
    have e : (if sp_f ρ d 0 = a ∧ sp_st ρ (sp_f0 ρ) d (sp_f ρ d 3) (sp_fx ρ a c (sp_D ρ) - 1) = true then sp_f ρ d 2 else 0) = sp_f ρ d 2 := if_pos ⟨d2, hst⟩
    show 0 < sp_sum _ _
    have t : sp_f ρ d 2 ≤ sp_sum (fun d => if sp_f ρ d 0 = a ∧ sp_st ρ (sp_f0 ρ) d (sp_f ρ d 3) (sp_fx ρ a c (sp_D ρ) - 1) = true then sp_f ρ d 2 else 0) (sp_D ρ) := e ▸ this
    omega
theorem fx_le {ρ : fd_H} {a c : Nat} (hv : sp_V1 ρ) (hc : c ≤ 40) (n : Nat) : sp_fx ρ a c n ≤ 40 := by
  rcases fx_at ρ a c n with e | ⟨d, d1, d2, d3, d4⟩
  · omega
  · rw [d4, (sf_pos d3).2]; exact f0_le40 hv _
def sp_v4 (k : Nat) : Int32 := if 40 ≤ k then -1 else nI k
theorem free_down {m ρ : fd_H} {a c : Nat} (hv : sp_V1 ρ) (hP : mp_P m ρ) (hD : mp_D m ρ) (hf : mf m ρ (sp_f0 ρ)) (ha : a < 6) (hc : c < 40) : ∀ e k f, k = c + e → k ≤ 40 → e < f → fX9_freeOf_L13 (nI a) (nI c) f (sp_v4 (max k (sp_fx ρ a c (sp_D ρ)))) (decide (k < sp_fx ρ a c (sp_D ρ))) (nI k - 1) m = some (sp_v4 (sp_fx ρ a c (sp_D ρ)), m) := by
  have hx := fx_le (a := a) hv (Nat.le_of_lt hc) (sp_D ρ)
  have hx1 := (fx_ge ρ a c (sp_D ρ)).1
  intro e
  induction e with
  | zero =>
    intro k f hk h40 hf'
    obtain ⟨f, rfl⟩ : ∃ k, f = k + 1 := ⟨f - 1, by omega⟩
    rw [fX9_freeOf_L13]; dsimp only
    have : k = c := by omega
    subst this
    rw [if_pos, Nat.max_eq_right hx1]
    rw [Int32.lt_iff_toInt_lt]
    rcases Nat.eq_zero_or_pos k with q | q
    · subst q; decide
    · obtain ⟨j, rfl⟩ : ∃ j, k = j + 1 := ⟨k - 1, by omega⟩
      rw [m_one, nI_toInt (by omega), nI_toInt (by omega)]; omega
  | succ e ih =>
    intro k f hk h40 hf'
    obtain ⟨f, rfl⟩ : ∃ k, f = k + 1 := ⟨f - 1, by omega⟩
    obtain ⟨k, rfl⟩ : ∃ j, k = j + 1 := ⟨k - 1, by omega⟩
    have nx := ih k f (by omega) (by omega) (by omega)
    generalize hX : sp_fx ρ a c (sp_D ρ) = X at *
    rw [m_one, fX9_freeOf_L13]; dsimp only
    unfold fX9_freeOf_L40 fX9_freeOf_L53
    rw [if_neg (nI_nlt (by omega) (by omega)), p_neg, show (0 : Int32) = nI 0 from rfl, owes_m hv hP hD hf ha (by omega) (by omega), Option.bind_some]
    by_cases c1 : k + 1 < X
    · rw [decide_eq_true c1, if_pos rfl, if_pos rfl]
      rw [decide_eq_true (by omega), Nat.max_eq_right (by omega)] at nx
      rw [Nat.max_eq_right (by omega)]
      exact nx
    · rw [decide_eq_false c1, if_neg (by decide)]
      by_cases c2 : k < X
      · have hkx : X = k + 1 := by omega
        have ho : 0 < sp_ow ρ (sp_f0 ρ) 0 a k := by
          have := fx_owes (ρ := ρ) (a := a) (c := c) (by omega)
          rwa [hX, hkx] at this
        have l0 := ow_le (ρ := ρ) (fi := sp_f0 ρ) (j := 0) (a := a) (n := k) hv
        rw [if_neg (nI_ge ho (by omega)), if_pos rfl]
        rw [decide_eq_true c2, Nat.max_eq_right (by omega)] at nx
        rw [Nat.max_eq_right (by omega)]
        exact nx
      · have ho : sp_ow ρ (sp_f0 ρ) 0 a k = 0 := fx_clear (c := c) (by omega)
        rw [ho, if_pos (nI_le (Nat.le_refl 0) (by omega)), if_neg (by decide)]
        rw [decide_eq_false c2, Nat.max_eq_left (by omega)] at nx
        unfold sp_v4 at nx ⊢
        rw [if_neg (by omega : ¬ 40 ≤ k)] at nx
        exact nx
theorem freeOf_eq {m ρ : fd_H} {a c : Nat} (hr : sp_raw m = ρ) (hv : sp_V ρ) (ha : a < 6) (hc : c < 40) : ∃ m', fX9_freeOf (nI a) (nI c) m = some (sp_v4 (sp_fx ρ a c (sp_D ρ)), m') ∧ mt m' ρ (sp_wm ρ) (sp_cl ρ) 8 := by
  obtain ⟨m2, e2, g1, g2⟩ := laysTold_eq hr hv.1 hv.2.1
  refine ⟨m2, ?_, g1⟩
  have hx := fx_le (a := a) hv.1 (Nat.le_of_lt hc) (sp_D ρ)
  have key := free_down hv.1 g1.2.1 g1.2.2.2.1 g2 ha hc (40 - c) 40 fd_fu (by omega) (by omega) (by have := fu_ge; omega)
  rw [Nat.max_eq_left hx, decide_eq_false (by omega : ¬ 40 < sp_fx ρ a c (sp_D ρ))] at key
  unfold fX9_freeOf
  rw [e2, Option.bind_some]
  exact key
theorem free_c {h ρ : fd_H} {a c : Nat} (hv : sp_V1 ρ) (q : CX h ρ) (ha : a < 6) (hc : c < 40) : fX8_free (nI a) (nI c) h = some (sp_v4 (sp_fx ρ a c (sp_D ρ))) := by
  have hDb := D_le hv
  unfold fX8_free
  rw [show (6 : Int32) = nI 6 from rfl, below_y ha (by omega), Option.bind_some, if_pos rfl, show (40 : Int32) = nI 40 from rfl, below_y hc (by omega), Option.bind_some, if_pos rfl]
  refine lp0 (F := fun f v i => fX8_free_L26 (nI a) (nI c) h f v i) (fun i => nI (sp_fx ρ a c i)) (sp_D ρ) (by omega) ?_ ?_
  · intro f
    show fX8_free_L26 (nI a) (nI c) h (f + 1) (nI (sp_fx ρ a c (sp_D ρ))) (nI (sp_D ρ)) = _
    have hx := fx_le (a := a) hv (Nat.le_of_lt hc) (sp_D ρ)
    rw [fX8_free_L26]; dsimp only
    rw [q.D.1, if_pos (nI_le (Nat.le_refl _) (by omega)), show (40 : Int32) = nI 40 from rfl]
    unfold sp_v4
    by_cases e : 40 ≤ sp_fx ρ a c (sp_D ρ)
    · rw [if_pos (nI_le e (by omega)), if_pos e]
    · rw [if_neg (nI_ge (by omega) (by omega)), if_neg e]
  · intro f d hd
    have hx := fx_le (a := a) hv (Nat.le_of_lt hc) d
    have h3 := f3_le hd
    have h4 := f4_le hd
    have b0 := f0_le hd
    show fX8_free_L26 (nI a) (nI c) h (f + 1) (nI (sp_fx ρ a c d)) (nI d) = fX8_free_L26 (nI a) (nI c) h f (nI (if sp_f ρ d 0 = a ∧ 0 < sp_sf ρ (sp_f0 ρ) d (sp_f ρ d 3) then max (sp_fx ρ a c d) (sp_f ρ d 4 + sp_sf ρ (sp_f0 ρ) d (sp_f ρ d 3)) else sp_fx ρ a c d)) (nI (d + 1))
    rw [fX8_free_L26]; dsimp only
    have hs : sp_sf ρ (sp_f0 ρ) d (sp_f ρ d 3) ≤ 40 := by
      have := f0_le40 hv (sp_f ρ d 3)
      unfold sp_sf
      split <;> omega
    rw [q.D.1, if_neg (nI_ge hd (by omega)), show (3 : Int32) = nI 3 from rfl, factC hv q.D hd (by omega), Option.bind_some, sfor_c hv q hd (by omega), Option.bind_some, show fX0_fact (nI d) 0 h = fX0_fact (nI d) (nI 0) h from rfl, factC hv q.D hd (by omega), Option.bind_some, show (4 : Int32) = nI 4 from rfl, factC hv q.D hd (by omega), Option.bind_some, nI_add, fd_lt, max_nI (by omega) (by omega), nI_1]
    by_cases e : sp_f ρ d 0 = a
    · rw [if_pos (by rw [e])]
      by_cases e2 : 0 < sp_sf ρ (sp_f0 ρ) d (sp_f ρ d 3)
      · rw [if_neg (show ¬ nI (sp_sf ρ (sp_f0 ρ) d (sp_f ρ d 3)) ≤ (0 : Int32) from nI_ge e2 (by omega)), if_pos (show sp_f ρ d 0 = a ∧ 0 < sp_sf ρ (sp_f0 ρ) d (sp_f ρ d 3) from ⟨e, e2⟩)]
        by_cases e3 : sp_fx ρ a c d < sp_f ρ d 4 + sp_sf ρ (sp_f0 ρ) d (sp_f ρ d 3)
        · rw [if_pos e3, Nat.max_eq_right (Nat.le_of_lt e3)]
        · rw [if_neg e3, Nat.max_eq_left (by omega)]
      · rw [show sp_sf ρ (sp_f0 ρ) d (sp_f ρ d 3) = 0 by omega, if_pos (by decide), if_neg (fun q => absurd q.2 (Nat.lt_irrefl 0))]
    · rw [if_neg (nI_ne e (by omega) (by omega)), if_neg (fun q => e q.1)]
theorem q_free : pp_free RR := by
  intro hx hm a b ⟨ρ, hr, hv, hc⟩
  unfold fX9_free
  rw [show (5 : Int32) = nI 5 from rfl]
  rcases below_cases a (n := 6) (by omega) with ⟨a, ha, rfl⟩ | h
  · rw [mbelow_y (by omega) (by omega), Option.bind_some, if_pos rfl]
    rcases below_cases b (n := 40) (by omega) with ⟨n, hn, rfl⟩ | h2
    · obtain ⟨m2, e2, g1⟩ := freeOf_eq hr hv ha hn
      rw [free_c hv.1 hc ha hn, isForty_y hn, Option.bind_some, if_pos rfl, e2]
      exact ⟨_, m2, rfl, rfl, ρ, g1.1, hv, hc⟩
    · unfold fX8_free
      rw [show (6 : Int32) = nI 6 from rfl, below_y ha (by omega), Option.bind_some, if_pos rfl, show (40 : Int32) = nI 40 from rfl, below_n h2, isForty_n h2]
      exact ⟨_, hm, rfl, rfl, ρ, hr, hv, hc⟩
  · unfold fX8_free
    rw [show (6 : Int32) = nI 6 from rfl, below_n h, mbelow_n (by omega) h]
    exact ⟨_, hm, rfl, rfl, ρ, hr, hv, hc⟩
def sp_wh (ρ : fd_H) (d b : Nat) : Nat → Int32 × Int32
  | 0 => (-1, -1)
  | p + 1 => if (sp_wh ρ d b p).1 = -1 then (nI p, nI (sp_sf ρ (sp_f0 ρ) d p)) else if b = 0 then (if (sp_wh ρ d b p).2 ≤ nI (sp_sf ρ (sp_f0 ρ) d p) then sp_wh ρ d b p else (nI p, nI (sp_sf ρ (sp_f0 ρ) d p))) else (if nI (sp_sf ρ (sp_f0 ρ) d p) ≤ (sp_wh ρ d b p).2 then sp_wh ρ d b p else (nI p, nI (sp_sf ρ (sp_f0 ρ) d p)))
def sp_whr (ρ : fd_H) (d b j : Nat) : Int32 := if j = 0 then (sp_wh ρ d b (sp_P ρ)).1 else (sp_wh ρ d b (sp_P ρ)).2
theorem whereOf_eq {m ρ : fd_H} {d b j : Nat} (hr : sp_raw m = ρ) (hv : sp_V ρ) (hd : d < sp_D ρ) (hb : b < 2) (hj : j < 2) : ∃ m', fX9_whereOf (nI d) (nI b) (nI j) m = some (sp_whr ρ d b j, m') ∧ mt m' ρ (sp_wm ρ) (sp_cl ρ) 8 := by
  have hPb := P_le hv.1
  obtain ⟨m2, e2, g1, g2⟩ := laysTold_eq hr hv.1 hv.2.1
  refine ⟨m2, ?_, g1⟩
  unfold fX9_whereOf
  rw [e2, Option.bind_some]
  refine lp0 (F := fun f (v : Int32 × Int32) i => fX9_whereOf_L13 (nI d) (nI b) (nI j) f v.1 v.2 i m2) (fun i => sp_wh ρ d b i) (sp_P ρ) (by omega) ?_ ?_
  · intro f
    show fX9_whereOf_L13 (nI d) (nI b) (nI j) (f + 1) (sp_wh ρ d b (sp_P ρ)).1 (sp_wh ρ d b (sp_P ρ)).2 (nI (sp_P ρ)) m2 = _
    rw [fX9_whereOf_L13]; dsimp only
    rw [g1.2.1.1, if_pos (nI_le (Nat.le_refl _) (by omega))]
    unfold sp_whr
    rcases (show j = 0 ∨ j = 1 by omega) with rfl | rfl <;> rfl
  · intro f i hi
    show fX9_whereOf_L13 (nI d) (nI b) (nI j) (f + 1) (sp_wh ρ d b i).1 (sp_wh ρ d b i).2 (nI i) m2 = fX9_whereOf_L13 (nI d) (nI b) (nI j) f (sp_wh ρ d b (i + 1)).1 (sp_wh ρ d b (i + 1)).2 (nI (i + 1)) m2
    rw [fX9_whereOf_L13]; dsimp only
    unfold fX9_whereOf_L63 fX9_whereOf_L64 fX9_whereOf_L78 fX9_whereOf_L92
    rw [g1.2.1.1, if_neg (nI_ge hi (by omega)), sfor_m hv.1 g1.2.1 g1.2.2.2.1 g2 (fun p _ => f0_le40 hv.1 p) hd (by omega), Option.bind_some, nI_1]
    show _ = fX9_whereOf_L13 (nI d) (nI b) (nI j) f (if (sp_wh ρ d b i).1 = -1 then (nI i, nI (sp_sf ρ (sp_f0 ρ) d i)) else if b = 0 then (if (sp_wh ρ d b i).2 ≤ nI (sp_sf ρ (sp_f0 ρ) d i) then sp_wh ρ d b i else (nI i, nI (sp_sf ρ (sp_f0 ρ) d i))) else (if nI (sp_sf ρ (sp_f0 ρ) d i) ≤ (sp_wh ρ d b i).2 then sp_wh ρ d b i else (nI i, nI (sp_sf ρ (sp_f0 ρ) d i)))).1 (if (sp_wh ρ d b i).1 = -1 then (nI i, nI (sp_sf ρ (sp_f0 ρ) d i)) else if b = 0 then (if (sp_wh ρ d b i).2 ≤ nI (sp_sf ρ (sp_f0 ρ) d i) then sp_wh ρ d b i else (nI i, nI (sp_sf ρ (sp_f0 ρ) d i))) else (if nI (sp_sf ρ (sp_f0 ρ) d i) ≤ (sp_wh ρ d b i).2 then sp_wh ρ d b i else (nI i, nI (sp_sf ρ (sp_f0 ρ) d i)))).2 (nI (i + 1)) m2
    by_cases c1 : (sp_wh ρ d b i).1 = -1
    · rw [if_pos c1, if_pos c1]; rfl
    · rw [if_neg c1, if_neg c1]
      rcases (show b = 0 ∨ b = 1 by omega) with rfl | rfl
      · rw [if_neg (by decide), if_pos rfl]
        by_cases c2 : (sp_wh ρ d 0 i).2 ≤ nI (sp_sf ρ (sp_f0 ρ) d i)
        · rw [if_pos c2, if_pos c2]; rfl
        · rw [if_neg c2, if_neg c2]; rfl
      · rw [if_pos (show nI 1 = 1 from rfl), if_neg (show ¬ (1 : Nat) = 0 by decide)]
        by_cases c2 : nI (sp_sf ρ (sp_f0 ρ) d i) ≤ (sp_wh ρ d 1 i).2
        · rw [if_pos c2, if_pos c2]; rfl
        · rw [if_neg c2, if_neg c2]; rfl
theorem where_c {h ρ : fd_H} {d b j : Nat} (hv : sp_V1 ρ) (q : CX h ρ) (hd : d < sp_D ρ) (hb : b < 2) (hj : j < 2) : fX8_where (nI d) (nI b) (nI j) h = some (sp_whr ρ d b j) := by
  have hPb := P_le hv
  have hDb := D_le hv
  unfold fX8_where
  rw [q.D.1, below_y hd (by omega), Option.bind_some, if_pos rfl, show (2 : Int32) = nI 2 from rfl, below_y hb (by omega), Option.bind_some, if_pos rfl, below_y hj (by omega), Option.bind_some, if_pos rfl]
  refine lp0 (F := fun f (v : Int32 × Int32) i => fX8_where_L42 (nI d) (nI b) (nI j) h f v.1 v.2 i) (fun i => sp_wh ρ d b i) (sp_P ρ) (by omega) ?_ ?_
  · intro f
    show fX8_where_L42 (nI d) (nI b) (nI j) h (f + 1) (sp_wh ρ d b (sp_P ρ)).1 (sp_wh ρ d b (sp_P ρ)).2 (nI (sp_P ρ)) = _
    rw [fX8_where_L42]; dsimp only
    rw [q.P.1, if_pos (nI_le (Nat.le_refl _) (by omega))]
    unfold sp_whr
    rcases (show j = 0 ∨ j = 1 by omega) with rfl | rfl <;> rfl
  · intro f i hi
    show fX8_where_L42 (nI d) (nI b) (nI j) h (f + 1) (sp_wh ρ d b i).1 (sp_wh ρ d b i).2 (nI i) = fX8_where_L42 (nI d) (nI b) (nI j) h f (if (sp_wh ρ d b i).1 = -1 then (nI i, nI (sp_sf ρ (sp_f0 ρ) d i)) else if b = 0 then (if (sp_wh ρ d b i).2 ≤ nI (sp_sf ρ (sp_f0 ρ) d i) then sp_wh ρ d b i else (nI i, nI (sp_sf ρ (sp_f0 ρ) d i))) else (if nI (sp_sf ρ (sp_f0 ρ) d i) ≤ (sp_wh ρ d b i).2 then sp_wh ρ d b i else (nI i, nI (sp_sf ρ (sp_f0 ρ) d i)))).1 (if (sp_wh ρ d b i).1 = -1 then (nI i, nI (sp_sf ρ (sp_f0 ρ) d i)) else if b = 0 then (if (sp_wh ρ d b i).2 ≤ nI (sp_sf ρ (sp_f0 ρ) d i) then sp_wh ρ d b i else (nI i, nI (sp_sf ρ (sp_f0 ρ) d i))) else (if nI (sp_sf ρ (sp_f0 ρ) d i) ≤ (sp_wh ρ d b i).2 then sp_wh ρ d b i else (nI i, nI (sp_sf ρ (sp_f0 ρ) d i)))).2 (nI (i + 1))
    rw [fX8_where_L42]; dsimp only
    unfold fX8_where_L90
    rw [q.P.1, if_neg (nI_ge hi (by omega)), sfor_c hv q hd (by omega), Option.bind_some, nI_1]
    by_cases c1 : (sp_wh ρ d b i).1 = -1
    · rw [if_pos c1, if_pos c1]
    · rw [if_neg c1, if_neg c1]
      rcases (show b = 0 ∨ b = 1 by omega) with rfl | rfl
      · rw [if_pos (by decide), if_pos rfl]
        by_cases c2 : (sp_wh ρ d 0 i).2 ≤ nI (sp_sf ρ (sp_f0 ρ) d i)
        · rw [if_pos c2, if_pos c2]
        · rw [if_neg c2, if_neg c2]
      · rw [if_neg (show ¬ nI 1 = 0 by decide), if_neg (show ¬ (1 : Nat) = 0 by decide)]
        by_cases c2 : nI (sp_sf ρ (sp_f0 ρ) d i) ≤ (sp_wh ρ d 1 i).2
        · rw [if_pos c2, if_pos c2]
        · rw [if_neg c2, if_neg c2]
theorem q_where : pp_where RR := by
  intro hx hm a b j ⟨ρ, hr, hv, hc⟩
  have hDb := D_le hv.1
  unfold fX9_where
  rw [show (1 : Int32) = nI 1 from rfl]
  rcases below_cases a (n := sp_D ρ) (by omega) with ⟨d, hd, rfl⟩ | h
  · obtain ⟨m1, e1, h1⟩ := isDebt_y hr hv.1 hd
    rw [e1, Option.bind_some]; dsimp only
    rw [if_pos rfl]
    rcases below_cases b (n := 2) (by omega) with ⟨b, hb, rfl⟩ | h2
    · rw [mbelow_y (by omega) (by omega), Option.bind_some, if_pos rfl]
      rcases below_cases j (n := 2) (by omega) with ⟨j, hj, rfl⟩ | h3
      · obtain ⟨m2, e2, g1⟩ := whereOf_eq h1.1 hv hd hb hj
        rw [where_c hv.1 hc hd hb hj, mbelow_y (by omega) (by omega), Option.bind_some, if_pos rfl, e2]
        exact ⟨_, m2, rfl, rfl, ρ, g1.1, hv, hc⟩
      · unfold fX8_where
        rw [hc.D.1, below_y hd (by omega), Option.bind_some, if_pos rfl, show (2 : Int32) = nI 2 from rfl, below_y hb (by omega), Option.bind_some, if_pos rfl, below_n h3, mbelow_n (by omega) h3]
        exact ⟨_, m1, rfl, rfl, ρ, h1.1, hv, hc⟩
    · unfold fX8_where
      rw [hc.D.1, below_y hd (by omega), Option.bind_some, if_pos rfl, show (2 : Int32) = nI 2 from rfl, below_n h2, mbelow_n (by omega) h2]
      exact ⟨_, m1, rfl, rfl, ρ, h1.1, hv, hc⟩
  · obtain ⟨m', e, h3⟩ := isDebt_n hr hv.1 h
    unfold fX8_where
    rw [e, Option.bind_some, hc.D.1, below_n h]
    exact ⟨_, m', rfl, rfl, ρ, h3.1, hv, hc⟩
