/-! ===== the class beside the model ===== -/
def cx_S (h ρ : fd_H) : Prop := h.1 51 3 = nI (sp_sc ρ) ∧ ∀ i, i < sp_sc ρ → h.1 53 i = nI (sp_sn ρ i) ∧ h.1 55 i = nI (sp_sp ρ i) ∧ h.1 57 i = nI (sp_si ρ i)
def cx_H (h ρ : fd_H) : Prop := ∀ s, s < 4 → (h.1 (61 + 3 * s) 1 = 0 ↔ ¬ ρ.1 93 s = 0) ∧ h.1 (61 + 3 * s) 2 = ρ.1 94 s ∧ h.1 (61 + 3 * s) 3 = ρ.1 95 s ∧ ∀ i, i < 48 → h.1 (63 + 3 * s) i = ρ.1 96 (48 * s + i)
def CX (h ρ : fd_H) : Prop := cx_T h ρ ∧ cx_P h ρ ∧ cx_N h ρ ∧ cx_D h ρ ∧ cx_M h ρ ∧ cx_W h ρ ∧ cx_S h ρ ∧ cx_H h ρ ∧ h.1 0 7 = ρ.1 73 30
theorem CX.T {h ρ : fd_H} (c : CX h ρ) : cx_T h ρ := c.1
theorem CX.P {h ρ : fd_H} (c : CX h ρ) : cx_P h ρ := c.2.1
theorem CX.N {h ρ : fd_H} (c : CX h ρ) : cx_N h ρ := c.2.2.1
theorem CX.D {h ρ : fd_H} (c : CX h ρ) : cx_D h ρ := c.2.2.2.1
theorem CX.M {h ρ : fd_H} (c : CX h ρ) : cx_M h ρ := c.2.2.2.2.1
theorem CX.W {h ρ : fd_H} (c : CX h ρ) : cx_W h ρ := c.2.2.2.2.2.1
theorem CX.S {h ρ : fd_H} (c : CX h ρ) : cx_S h ρ := c.2.2.2.2.2.2.1
theorem CX.H {h ρ : fd_H} (c : CX h ρ) : cx_H h ρ := c.2.2.2.2.2.2.2.1
theorem CX.F {h ρ : fd_H} (c : CX h ρ) : h.1 0 7 = ρ.1 73 30 := c.2.2.2.2.2.2.2.2
def RR (hx hm : fd_H) : Prop := ∃ ρ, sp_raw hm = ρ ∧ sp_V ρ ∧ CX hx ρ
theorem in_sub_y {j n : Nat} (h : j < n) (hn : n < 2147483648) : fX9_in (nI j) 0 (nI n - 1) = some true := by
  obtain ⟨k, rfl⟩ : ∃ k, n = k + 1 := ⟨n - 1, by omega⟩
  rw [m_one]
  exact mbelow_y (by omega) (by omega)
theorem in_sub_n {a : Int32} {n : Nat} (hn : n < 2147483648) (h : a < 0 ∨ nI n ≤ a) : fX9_in a 0 (nI n - 1) = some false := by
  rcases Nat.eq_zero_or_pos n with q | q
  · subst q
    unfold fX9_in
    rcases h with h | h
    · rw [if_pos h]
    · have e : nI 0 - 1 = -1 := rfl
      rw [e]
      have h0 : (nI 0).toInt ≤ a.toInt := Int32.le_iff_toInt_le.mp h
      have h1 : ¬ a < 0 := fun q => by
        have := Int32.lt_iff_toInt_lt.mp q
        have e1 : (0 : Int32).toInt = 0 := rfl
        have e2 : (nI 0).toInt = 0 := rfl
        omega
      rw [if_neg h1, if_pos]
      refine Int32.lt_iff_toInt_lt.mpr ?_
      have e1 : (-1 : Int32).toInt = -1 := rfl
      have e2 : (nI 0).toInt = 0 := rfl
      omega
  · obtain ⟨k, rfl⟩ : ∃ k, n = k + 1 := ⟨n - 1, by omega⟩
    rw [m_one]
    exact mbelow_n hn h
theorem isPlace_y {m ρ : fd_H} {p : Nat} (hr : sp_raw m = ρ) (hv : sp_V1 ρ) (hp : p < sp_P ρ) : ∃ m', fX9_isPlace (nI p) m = some (true, m') ∧ mp_R m' ρ := by
  obtain ⟨m', e, h⟩ := reads_eq hr hv
  have := P_le hv
  refine ⟨m', ?_, h⟩
  unfold fX9_isPlace
  rw [e, Option.bind_some, h.2.1.1, in_sub_y hp (by omega)]; rfl
theorem isPlace_n {m ρ : fd_H} {a : Int32} (hr : sp_raw m = ρ) (hv : sp_V1 ρ) (hp : a < 0 ∨ nI (sp_P ρ) ≤ a) : ∃ m', fX9_isPlace a m = some (false, m') ∧ mp_R m' ρ := by
  obtain ⟨m', e, h⟩ := reads_eq hr hv
  have := P_le hv
  refine ⟨m', ?_, h⟩
  unfold fX9_isPlace
  rw [e, Option.bind_some, h.2.1.1, in_sub_n (by omega) hp]; rfl
theorem isNight_y {m ρ : fd_H} {p : Nat} (hr : sp_raw m = ρ) (hv : sp_V1 ρ) (hp : p < sp_N ρ) : ∃ m', fX9_isNight (nI p) m = some (true, m') ∧ mp_R m' ρ := by
  obtain ⟨m', e, h⟩ := reads_eq hr hv
  have := N_le hv
  refine ⟨m', ?_, h⟩
  unfold fX9_isNight
  rw [e, Option.bind_some, h.2.2.1.1, in_sub_y hp (by omega)]; rfl
theorem isNight_n {m ρ : fd_H} {a : Int32} (hr : sp_raw m = ρ) (hv : sp_V1 ρ) (hp : a < 0 ∨ nI (sp_N ρ) ≤ a) : ∃ m', fX9_isNight a m = some (false, m') ∧ mp_R m' ρ := by
  obtain ⟨m', e, h⟩ := reads_eq hr hv
  have := N_le hv
  refine ⟨m', ?_, h⟩
  unfold fX9_isNight
  rw [e, Option.bind_some, h.2.2.1.1, in_sub_n (by omega) hp]; rfl
theorem isDebt_y {m ρ : fd_H} {p : Nat} (hr : sp_raw m = ρ) (hv : sp_V1 ρ) (hp : p < sp_D ρ) : ∃ m', fX9_isDebt (nI p) m = some (true, m') ∧ mp_R m' ρ := by
  obtain ⟨m', e, h⟩ := reads_eq hr hv
  have := D_le hv
  refine ⟨m', ?_, h⟩
  unfold fX9_isDebt
  rw [e, Option.bind_some, h.2.2.2.1, in_sub_y hp (by omega)]; rfl
theorem isDebt_n {m ρ : fd_H} {a : Int32} (hr : sp_raw m = ρ) (hv : sp_V1 ρ) (hp : a < 0 ∨ nI (sp_D ρ) ≤ a) : ∃ m', fX9_isDebt a m = some (false, m') ∧ mp_R m' ρ := by
  obtain ⟨m', e, h⟩ := reads_eq hr hv
  have := D_le hv
  refine ⟨m', ?_, h⟩
  unfold fX9_isDebt
  rw [e, Option.bind_some, h.2.2.2.1, in_sub_n (by omega) hp]; rfl
/-- small doors, both sides -/
theorem door_n {a : Int32} {n : Nat} (hn : n + 1 < 2147483648) (h : a < 0 ∨ nI (n + 1) ≤ a) : fX8_isBelow a (nI (n + 1)) = some false ∧ fX9_in a 0 (nI n) = some false := ⟨below_n h, mbelow_n hn h⟩
theorem door_y {j n : Nat} (hn : n + 1 < 2147483648) (h : j < n + 1) : fX8_isBelow (nI j) (nI (n + 1)) = some true ∧ fX9_in (nI j) 0 (nI n) = some true := ⟨below_y h hn, mbelow_y (by omega) (by omega)⟩
theorem isText_y {t : Nat} (h : t < 3) : fX9_isText (nI t) = some true := by unfold fX9_isText; rw [show (2 : Int32) = nI 2 from rfl, mbelow_y (by omega) (by omega)]; rfl
theorem isText_n {a : Int32} (h : a < 0 ∨ nI 3 ≤ a) : fX9_isText a = some false := by unfold fX9_isText; rw [show (2 : Int32) = nI 2 from rfl, mbelow_n (by omega) h]; rfl
theorem isForty_y {t : Nat} (h : t < 40) : fX9_isForty (nI t) = some true := by unfold fX9_isForty; rw [show (39 : Int32) = nI 39 from rfl, mbelow_y (by omega) (by omega)]; rfl
theorem isForty_n {a : Int32} (h : a < 0 ∨ nI 40 ≤ a) : fX9_isForty a = some false := by unfold fX9_isForty; rw [show (39 : Int32) = nI 39 from rfl, mbelow_n (by omega) h]; rfl
theorem isEight_y {t : Nat} (h : t < 8) : fX9_isEight (nI t) = some true := by unfold fX9_isEight; rw [show (7 : Int32) = nI 7 from rfl, mbelow_y (by omega) (by omega)]; rfl
theorem isEight_n {a : Int32} (h : a < 0 ∨ nI 8 ≤ a) : fX9_isEight a = some false := by unfold fX9_isEight; rw [show (7 : Int32) = nI 7 from rfl, mbelow_n (by omega) h]; rfl
theorem isSheet_y {t : Nat} (h : t < 4) : fX9_isSheet (nI t) = some true := by unfold fX9_isSheet; rw [show (3 : Int32) = nI 3 from rfl, mbelow_y (by omega) (by omega)]; rfl
theorem isSheet_n {a : Int32} (h : a < 0 ∨ nI 4 ≤ a) : fX9_isSheet a = some false := by unfold fX9_isSheet; rw [show (3 : Int32) = nI 3 from rfl, mbelow_n (by omega) h]; rfl
theorem q_fault : pp_fault RR := by
  intro hx hm a ⟨ρ, hr, hv, hc⟩
  unfold fX8_fault fX9_fault
  rcases below_cases a (n := 3) (by omega) with ⟨t, ht, rfl⟩ | h
  · obtain ⟨m', e, h⟩ := mfault_eq hr hv.1 ht
    refine ⟨sp_fault ρ t, m', ?_, ?_, ρ, h.1, hv, hc⟩
    · rw [show (3 : Int32) = nI 3 from rfl, below_y ht (by omega), Option.bind_some, if_pos rfl, in_nI ht (by omega), fd_g, if_pos rfl, nI_clamp (by omega)]
      have ef : fd_tn (nI t) = sp_cp t := by
        rcases (show t = 0 ∨ t = 1 ∨ t = 2 by omega) with rfl | rfl | rfl <;> rfl
      rw [ef, fault_c hv.1 hc.T ht]; rfl
    · rw [isText_y ht, Option.bind_some, if_pos rfl, e]; rfl
  · refine ⟨-2, hm, ?_, ?_, ρ, hr, hv, hc⟩
    · rw [show (3 : Int32) = nI 3 from rfl, below_n h]; rfl
    · rw [isText_n h]; rfl
theorem q_place : pp_place RR := by
  intro hx hm a b ⟨ρ, hr, hv, hc⟩
  have hb := P_le hv.1
  unfold fX8_place fX9_place
  rcases below_cases a (n := sp_P ρ) (by omega) with ⟨p, hp, rfl⟩ | h
  · obtain ⟨m', e, h⟩ := isPlace_y hr hv.1 hp
    have e2 := h.2.1.2 p hp
    have e3 := hc.P.2 p hp
    rw [e, Option.bind_some, has_y hc.P.1 hp (by omega), Option.bind_some, if_pos rfl]; dsimp only
    rw [if_pos rfl]
    rcases below_cases b (n := 2) (by omega) with ⟨j, hj, rfl⟩ | h2
    · rw [show (2 : Int32) = nI 2 from rfl, show (1 : Int32) = nI 1 from rfl, below_y hj (by omega), mbelow_y (by omega) (by omega), Option.bind_some, Option.bind_some, if_pos rfl, if_pos rfl, in_nI (by omega) (by omega), fd_g, if_pos rfl, fd_g, if_pos rfl, nI_clamp (by omega), at_in (by omega) (by omega), at_in (by omega) (by omega), e2.1, e2.2, e3.1, e3.2.1]
      rcases (show j = 0 ∨ j = 1 by omega) with rfl | rfl
      · exact ⟨_, m', rfl, rfl, ρ, h.1, hv, hc⟩
      · exact ⟨_, m', rfl, rfl, ρ, h.1, hv, hc⟩
    · rw [show (2 : Int32) = nI 2 from rfl, show (1 : Int32) = nI 1 from rfl, below_n h2, mbelow_n (by omega) h2]
      exact ⟨_, m', rfl, rfl, ρ, h.1, hv, hc⟩
  · obtain ⟨m', e, h3⟩ := isPlace_n hr hv.1 h
    rw [e, Option.bind_some, has_n hc.P.1 h]
    exact ⟨_, m', rfl, rfl, ρ, h3.1, hv, hc⟩
theorem q_warm : pp_warm RR := by
  intro hx hm a ⟨ρ, hr, hv, hc⟩
  have hb := N_le hv.1
  unfold fX8_warm fX9_warm
  rw [hc.N.1]
  rcases below_cases a (n := sp_N ρ) (by omega) with ⟨p, hp, rfl⟩ | h
  · obtain ⟨m', e, h⟩ := isNight_y hr hv.1 hp
    rw [e, Option.bind_some, below_y hp (by omega), Option.bind_some, if_pos rfl]; dsimp only
    rw [if_pos rfl, in_nI (by omega) (by omega), fd_g, if_pos rfl, nI_clamp (by omega), at_in (by omega) (by omega), h.2.2.1.2 p hp, hc.N.2 p hp]
    exact ⟨_, m', rfl, rfl, ρ, h.1, hv, hc⟩
  · obtain ⟨m', e, h3⟩ := isNight_n hr hv.1 h
    rw [e, Option.bind_some, below_n h]
    exact ⟨_, m', rfl, rfl, ρ, h3.1, hv, hc⟩
theorem debtOf_eq {m ρ : fd_H} {d j : Nat} (hv : sp_V1 ρ) (h : mp_D m ρ) (hd : d < sp_D ρ) (hj : j < 5) : fX9_debtOf (nI d) (nI j) m = some (nI (sp_f ρ d j)) := by
  have hb := D_le hv
  obtain ⟨g0, g1, g2, g3, g4⟩ := h.2 d hd
  unfold fX9_debtOf
  rw [in_nI (by omega) (by omega), fd_g, if_pos rfl, fd_g, if_pos rfl, fd_g, if_pos rfl, fd_g, if_pos rfl, fd_g, if_pos rfl, nI_clamp (by omega), g0, g1, g2, g3, g4]
  rcases (show j = 0 ∨ j = 1 ∨ j = 2 ∨ j = 3 ∨ j = 4 by omega) with rfl | rfl | rfl | rfl | rfl <;> rfl
theorem factC {h ρ : fd_H} {d j : Nat} (hv : sp_V1 ρ) (hD : cx_D h ρ) (hd : d < sp_D ρ) (hj : j < 5) : fX0_fact (nI d) (nI j) h = some (nI (sp_f ρ d j)) := by
  have hb := D_le hv
  rw [fact_in (by omega) hj, hD.2 d hd j hj]
theorem q_debt : pp_debt RR := by
  intro hx hm a b ⟨ρ, hr, hv, hc⟩
  have hb := D_le hv.1
  unfold fX8_debt fX9_debt
  rw [hc.D.1]
  rcases below_cases a (n := sp_D ρ) (by omega) with ⟨p, hp, rfl⟩ | h
  · obtain ⟨m', e, h⟩ := isDebt_y hr hv.1 hp
    rw [e, Option.bind_some, below_y hp (by omega), Option.bind_some, if_pos rfl]; dsimp only
    rw [if_pos rfl, show (5 : Int32) = nI 5 from rfl, show (4 : Int32) = nI 4 from rfl]
    rcases below_cases b (n := 5) (by omega) with ⟨j, hj, rfl⟩ | h2
    · rw [below_y hj (by omega), mbelow_y (by omega) (by omega), Option.bind_some, Option.bind_some, if_pos rfl, if_pos rfl, factC hv.1 hc.D hp hj, debtOf_eq hv.1 h.2.2.2 hp hj]
      exact ⟨_, m', rfl, rfl, ρ, h.1, hv, hc⟩
    · rw [below_n h2, mbelow_n (by omega) h2]
      exact ⟨_, m', rfl, rfl, ρ, h.1, hv, hc⟩
  · obtain ⟨m', e, h3⟩ := isDebt_n hr hv.1 h
    rw [e, Option.bind_some, below_n h]
    exact ⟨_, m', rfl, rfl, ρ, h3.1, hv, hc⟩
theorem mp_R.warmth {m ρ : fd_H} {n p : Nat} (hv : sp_V1 ρ) (h : mp_R m ρ) (hn : n < sp_N ρ) (hp : p < sp_P ρ) : fX9_warmthBy (nI n) (nI p) m = some (nI (sp_wm ρ n) + (sp_lfI (sp_kd ρ p) - nI (sp_ht ρ p))) := by
  have hP := P_le hv
  have hN := N_le hv
  have k3 := kd_le (ρ := ρ) (p := p)
  obtain ⟨_, h1, h2, h3⟩ := h
  obtain ⟨q1, q2⟩ := h1.2 p hp
  unfold fX9_warmthBy fX9_warmthBy_L49
  rw [in_nI (by omega) (by omega), fd_g, if_pos rfl, fd_lt, in_nI (by omega) (by omega), fd_g, if_pos rfl, fd_g, if_pos rfl, nI_clamp (by omega), nI_clamp (by omega), q1, q2, h2.2 n hn, show (1 : Int32) = nI 1 from rfl, show (3 : Int32) = nI 3 from rfl, ← wshift]
  rcases sp_lf_cases (sp_kd ρ p) with ⟨e, f⟩ | ⟨e, f⟩ | ⟨e, f⟩ | ⟨e1, e2, e3, f⟩
  · rw [if_pos (by rw [e]), f]; rfl
  · rw [if_neg (nI_ne (by omega) (by omega) (by omega)), if_pos (by rw [e]; rfl), f]
  · rw [if_neg (nI_ne (by omega) (by omega) (by omega)), show (2 : Int32) = nI 2 from rfl, if_neg (nI_ne (by omega) (by omega) (by omega)), if_pos (by rw [e]), f]
  · rw [if_neg (nI_ne e1 (by omega) (by omega)), show (2 : Int32) = nI 2 from rfl, if_neg (nI_ne e2 (by omega) (by omega)), if_neg (nI_ne e3 (by omega) (by omega)), f]
theorem q_warmth : pp_warmth RR := by
  intro hx hm a b ⟨ρ, hr, hv, hc⟩
  have hb := P_le hv.1
  have hN := N_le hv.1
  unfold fX8_warmth fX9_warmth
  rw [hc.N.1]
  rcases below_cases a (n := sp_N ρ) (by omega) with ⟨n, hn, rfl⟩ | h
  · obtain ⟨m1, e1, h1⟩ := isNight_y hr hv.1 hn
    rw [e1, Option.bind_some, below_y hn (by omega), Option.bind_some, if_pos rfl]; dsimp only
    rw [if_pos rfl]
    rcases below_cases b (n := sp_P ρ) (by omega) with ⟨p, hp, rfl⟩ | h2
    · obtain ⟨m2, e2, h2⟩ := isPlace_y h1.1 hv.1 hp
      obtain ⟨m3, e3, h3⟩ := reads_eq h2.1 hv.1
      rw [e2, Option.bind_some, has_y hc.P.1 hp (by omega), Option.bind_some, if_pos rfl, at_in (by omega) (by omega), at_in (by omega) (by omega), hc.N.2 n hn, (hc.P.2 p hp).2.2]; dsimp only
      unfold fX9_warmthOf
      rw [if_pos rfl, e3]
      simp only [Option.bind_some]
      rw [h3.warmth hv.1 hn hp]
      exact ⟨_, m3, rfl, rfl, ρ, h3.1, hv, hc⟩
    · obtain ⟨m2, e2, h3⟩ := isPlace_n h1.1 hv.1 h2
      rw [e2, Option.bind_some, has_n hc.P.1 h2]
      exact ⟨_, m2, rfl, rfl, ρ, h3.1, hv, hc⟩
  · obtain ⟨m', e, h3⟩ := isNight_n hr hv.1 h
    rw [e, Option.bind_some, below_n h]
    exact ⟨_, m', rfl, rfl, ρ, h3.1, hv, hc⟩
theorem freezesOf_eq {m ρ : fd_H} {n p : Nat} (hr : sp_raw m = ρ) (hv : sp_V ρ) (hn : n < sp_N ρ) (hp : p < sp_P ρ) : ∃ m', fX9_freezesOf (nI n) (nI p) m = some (if sp_ic ρ 8 n p = true then 2 else if sp_fr ρ (sp_wm ρ) (sp_cl ρ) 8 n p = true then 1 else 0, m') ∧ sp_raw m' = ρ ∧ mp_R m' ρ := by
  have hb := P_le hv.1
  have hN := N_le hv.1
  obtain ⟨m1, e1, h1⟩ := asTold_eq hr hv.1 hv.2.1
  refine ⟨m1, ?_, h1.1, h1.1, h1.2.1, h1.2.2.1, h1.2.2.2.1⟩
  unfold fX9_freezesOf
  rw [e1, Option.bind_some, show (2 : Int32) = nI 2 from rfl, isTold_eq h1.1 hv.2.1 h1.2.2.2.2.2 (by omega) (by omega) (by omega), told2, Option.bind_some, in_nI (by omega : n < 40) (by omega), fd_g, if_pos rfl, nI_clamp (by omega), h1.2.2.2.2.1 n (by omega), mcold_eq hv.1 hv.2.1 h1 hn hp (wm_le hn), Option.bind_some]
  unfold sp_fr
  cases sp_ic ρ 8 n p <;> cases sp_cl ρ n <;> cases (sp_cold ρ n p (sp_wm ρ n) && !sp_sm ρ n p) <;> rfl
theorem q_freezes : pp_freezes RR := by
  intro hx hm a b ⟨ρ, hr, hv, hc⟩
  have hb := P_le hv.1
  have hN := N_le hv.1
  unfold fX8_freezes fX9_freezes
  rw [hc.N.1]
  rcases below_cases a (n := sp_N ρ) (by omega) with ⟨n, hn, rfl⟩ | h
  · obtain ⟨m1, e1, h1⟩ := isNight_y hr hv.1 hn
    rw [e1, Option.bind_some, below_y hn (by omega), Option.bind_some, if_pos rfl]; dsimp only
    rw [if_pos rfl]
    rcases below_cases b (n := sp_P ρ) (by omega) with ⟨p, hp, rfl⟩ | h2
    · obtain ⟨m2, e2, h2⟩ := isPlace_y h1.1 hv.1 hp
      obtain ⟨m3, e3, h3, -⟩ := freezesOf_eq h2.1 hv hn hp
      have w := hc.W.2 p hp n (by omega)
      rw [e2, Option.bind_some, has_y hc.P.1 hp (by omega), Option.bind_some, if_pos rfl, sat_in (by omega), Option.bind_some, hasBit_eq (by omega), Option.bind_some, sat_in (by omega), Option.bind_some, hasBit_eq (by omega), Option.bind_some, w.2.1, w.2.2, decide_eq_true hn, Bool.true_and, Bool.true_and]; dsimp only
      rw [if_pos rfl, e3]
      refine ⟨_, m3, ?_, rfl, ρ, h3, hv, hc⟩
      cases sp_ic ρ 8 n p <;> cases sp_fr ρ (sp_wm ρ) (sp_cl ρ) 8 n p <;> rfl
    · obtain ⟨m2, e2, h3⟩ := isPlace_n h1.1 hv.1 h2
      rw [e2, Option.bind_some, has_n hc.P.1 h2]
      exact ⟨_, m2, rfl, rfl, ρ, h3.1, hv, hc⟩
  · obtain ⟨m', e, h3⟩ := isNight_n hr hv.1 h
    rw [e, Option.bind_some, below_n h]
    exact ⟨_, m', rfl, rfl, ρ, h3.1, hv, hc⟩
