/-! ===== year ===== -/
def sp_sd (a : Int32) : Nat → Int32
  | 0 => a
  | i + 1 => 1103515245 * sp_sd a i + 12345
def sp_cq (a : Int32) (i : Nat) : Bool := decide (fd_irem (fd_iushr (sp_sd a (i + 1)) 16) 4 = 0)
def sp_cy (ρ : fd_H) (a : Int32) (n : Nat) : Bool := if n < sp_N ρ then sp_cq a n else sp_cl ρ n
theorem clouds_c {h ρ : fd_H} (a : Int32) (hv : sp_V1 ρ) (hN : cx_N h ρ) : ∃ x, fX8_cloudsBySeed a h = some x ∧ ∀ i, i < 64 → gb x i = (decide (i < sp_N ρ) && sp_cq a i) := by
  have hb := N_le hv
  refine lpi0 (F := fun f (s : Int64 × Int32) i => fX8_cloudsBySeed_L8 a h f s.1 s.2 i) (fun k s => s.2 = sp_sd a k ∧ ∀ i, i < 64 → gb s.1 i = (decide (i < k) && sp_cq a i)) (sp_N ρ) (by omega) (post := fun o => ∃ x, o = some x ∧ ∀ i, i < 64 → gb x i = (decide (i < sp_N ρ) && sp_cq a i)) (a := (0, a)) ⟨rfl, fun i _ => by rw [gb_0, decide_eq_false (Nat.not_lt_zero i)]; rfl⟩ ?_ ?_
  · intro f s ⟨s1, s2⟩
    refine ⟨s.1, ?_, s2⟩
    show fX8_cloudsBySeed_L8 a h (f + 1) s.1 s.2 (nI (sp_N ρ)) = _
    rw [fX8_cloudsBySeed_L8]; dsimp only
    rw [hN.1, if_pos (nI_le (Nat.le_refl _) (by omega))]
  · intro f k s hk ⟨s1, s2⟩
    have ex : s.2 * 1103515245 + 12345 = sp_sd a (k + 1) := by rw [s1, Int32.mul_comm]; rfl
    refine ⟨(if sp_cq a k = true then s.1 ||| fd_lshl 1 (nI k) else s.1, sp_sd a (k + 1)), ⟨rfl, fun i hi => ?_⟩, ?_⟩
    · show gb (if sp_cq a k = true then s.1 ||| fd_lshl 1 (nI k) else s.1) i = _
      have b := s2 i hi
      by_cases q : i = k
      · subst q
        rw [decide_eq_true (by omega : i < i + 1), Bool.true_and]
        rw [decide_eq_false (by omega), Bool.false_and] at b
        cases e : sp_cq a i
        · rw [if_neg (by decide), b]
        · rw [if_pos rfl, gb_or, gb_sh1 (by omega), decide_eq_true rfl, Bool.or_true]
      · have ed : decide (i < k + 1) = decide (i < k) := by
          by_cases z : i < k
          · rw [decide_eq_true z, decide_eq_true (by omega)]
          · rw [decide_eq_false z, decide_eq_false (by omega)]
        rw [ed, ← b]
        cases e : sp_cq a k
        · rw [if_neg (by decide)]
        · rw [if_pos rfl, gb_or, gb_sh1 (by omega), decide_eq_false q, Bool.or_false]
    · show fX8_cloudsBySeed_L8 a h (f + 1) s.1 s.2 (nI k) = fX8_cloudsBySeed_L8 a h f _ (sp_sd a (k + 1)) (nI (k + 1))
      rw [fX8_cloudsBySeed_L8]; dsimp only
      rw [hN.1, if_neg (nI_ge hk (by omega)), fd_lt, ex, fd_lt, nI_1]
      by_cases q : fd_irem (fd_iushr (sp_sd a (k + 1)) 16) 4 = 0
      · rw [if_pos q, if_pos (show sp_cq a k = true from decide_eq_true q)]
      · rw [if_neg q, if_neg (show ¬ sp_cq a k = true from fun z => q (of_decide_eq_true z))]
def sp_yn (ρ : fd_H) (a : Int32) : Nat := sp_sum (fun d => if sp_st ρ (sp_fi ρ (sp_wm ρ) (sp_cy ρ a) 8) d (sp_f ρ d 3) 39 = true then 1 else 0) (sp_D ρ)
theorem year_cnt {h ρ : fd_H} (a b : Int32) (hv : sp_V ρ) (c : CX h ρ) (t : sp_tr h ρ (sp_fr ρ (sp_wm ρ) (sp_cy ρ a) 8)) : fX8_year_L97 a b fd_fu 0 0 h = some (nI (sp_yn ρ a), h) := by
  have hb := D_le hv.1
  refine lp0 (F := fun f v i => fX8_year_L97 a b f v i h) (fun i => nI (sp_sum (fun d => if sp_st ρ (sp_fi ρ (sp_wm ρ) (sp_cy ρ a) 8) d (sp_f ρ d 3) 39 = true then 1 else 0) i)) (sp_D ρ) (by omega) ?_ ?_
  · intro f
    show fX8_year_L97 a b (f + 1) (nI (sp_sum _ (sp_D ρ))) (nI (sp_D ρ)) h = _
    rw [fX8_year_L97]; dsimp only
    rw [c.D.1, if_pos (nI_le (Nat.le_refl _) (by omega))]; rfl
  · intro f i hi
    show fX8_year_L97 a b (f + 1) (nI (sp_sum (fun d => if sp_st ρ (sp_fi ρ (sp_wm ρ) (sp_cy ρ a) 8) d (sp_f ρ d 3) 39 = true then 1 else 0) i)) (nI i) h = fX8_year_L97 a b f (nI (sp_sum (fun d => if sp_st ρ (sp_fi ρ (sp_wm ρ) (sp_cy ρ a) 8) d (sp_f ρ d 3) 39 = true then 1 else 0) i + if sp_st ρ (sp_fi ρ (sp_wm ρ) (sp_cy ρ a) 8) i (sp_f ρ i 3) 39 = true then 1 else 0)) (nI (i + 1)) h
    generalize sp_sum (fun d => if sp_st ρ (sp_fi ρ (sp_wm ρ) (sp_cy ρ a) 8) d (sp_f ρ d 3) 39 = true then 1 else 0) i = S
    rw [fX8_year_L97]; dsimp only
    rw [c.D.1, if_neg (nI_ge hi (by omega)), show (39 : Int32) = nI 39 from rfl, stand_c hv.1 c.P c.D (tr_by hv.1 t) hi (by omega), Option.bind_some, nI_1, nI_1]
    show (if sp_st ρ (sp_fi ρ (sp_wm ρ) (sp_cy ρ a) 8) i (sp_f ρ i 3) 39 = true then _ else _) = _
    cases sp_st ρ (sp_fi ρ (sp_wm ρ) (sp_cy ρ a) 8) i (sp_f ρ i 3) 39 <;> rfl
theorem year_in {ρ : fd_H} (a b : Int32) {x : Int64} (hv : sp_V ρ) (hx : ∀ i, i < 64 → gb x i = (decide (i < sp_N ρ) && sp_cq a i)) : ∀ d p f h, p + d = sp_P ρ → d < f → CX h ρ → (∀ q, q < p → ∀ i, i < 64 → gb (h.2 59 q) i = (decide (i < sp_N ρ) && sp_fr ρ (sp_wm ρ) (sp_cy ρ a) 8 i q)) → ∃ h', CX h' ρ ∧ sp_tr h' ρ (sp_fr ρ (sp_wm ρ) (sp_cy ρ a) 8) ∧ fX8_year_L28 a b f x (nI p) h = if b = -1 then fX8_year_L97 a b fd_fu 0 0 h' else (fX5_firstOf 58 b h').bind fun r4 => some (r4, h') := by
  have hb := P_le hv.1
  intro d
  induction d with
  | zero =>
    intro p f h hd hf c ht
    obtain ⟨f, rfl⟩ : ∃ k, f = k + 1 := ⟨f - 1, by omega⟩
    refine ⟨h, c, fun q hq => ht q (by omega), ?_⟩
    rw [fX8_year_L28]; dsimp only
    rw [c.P.1, if_pos (nI_le (by omega) (by omega))]
  | succ d ih =>
    intro p f h hd hf c ht
    obtain ⟨f, rfl⟩ : ∃ k, f = k + 1 := ⟨f - 1, by omega⟩
    have hp : p < sp_P ρ := by omega
    obtain ⟨y, e1, e2⟩ := frost_eq (cy := x) (iy := h.2 45 p) hv.1 hv.2.1 c.M c.P c.N hp (fun i hi => (c.W.2 p hp i hi).1)
    have e3 : ∀ i, i < 64 → gb y i = (decide (i < sp_N ρ) && sp_fr ρ (sp_wm ρ) (sp_cy ρ a) 8 i p) := by
      intro i hi
      rw [e2 i hi, hx i hi, (c.W.2 p hp i hi).2.1]
      unfold sp_fr sp_cy
      by_cases q : i < sp_N ρ
      · rw [decide_eq_true q, if_pos q]
        cases sp_ic ρ 8 i p <;> cases sp_cq a i <;> cases sp_cold ρ i p (sp_wm ρ i) <;> cases sp_sm ρ i p <;> rfl
      · rw [decide_eq_false q]; rfl
    obtain ⟨h', g1, g2, g3⟩ := ih (p + 1) f (fd_ul h 59 p y) (by omega) (by omega) (c.trial rfl (fun x y a => ul_g (by omega))) (fun q hq i hi => by
      by_cases z : q = p
      · rw [z, ul_s]; exact e3 i hi
      · rw [ul_g (by omega)]; exact ht q (by omega) i hi)
    refine ⟨h', g1, g2, ?_⟩
    rw [fX8_year_L28]; dsimp only
    rw [c.P.1, if_neg (nI_ge (by omega) (by omega)), sat_in (by omega), Option.bind_some, e1, Option.bind_some, sset_in (by omega), Option.bind_some, nI_1]
    exact g3
def sp_yr (ρ : fd_H) (a : Int32) (j : Nat) : Int32 := if j < sp_P ρ then sp_fI (sp_fi ρ (sp_wm ρ) (sp_cy ρ a) 8 j) else nI (sp_yn ρ a)
theorem year_c1 {h ρ : fd_H} (a : Int32) (hv : sp_V ρ) (c : CX h ρ) : ∃ h', fX8_year_L19 a (-1) h = some (nI (sp_yn ρ a), h') ∧ CX h' ρ := by
  have hb := P_le hv.1
  obtain ⟨x, e1, e2⟩ := clouds_c a hv.1 c.N
  obtain ⟨h', g1, g2, g3⟩ := year_in a (-1) hv e2 (sp_P ρ) 0 fd_fu h (Nat.zero_add _) (by have := fu_ge; omega) c (fun q hq => absurd hq (Nat.not_lt_zero q))
  refine ⟨h', ?_, g1⟩
  rw [if_pos rfl, year_cnt a (-1) hv g1 g2] at g3
  unfold fX8_year_L19
  rw [e1, Option.bind_some]
  exact g3
theorem year_c2 {h ρ : fd_H} {p : Nat} (a : Int32) (hv : sp_V ρ) (c : CX h ρ) (hp : p < sp_P ρ) : ∃ h', fX8_year_L19 a (nI p) h = some (sp_fI (sp_fi ρ (sp_wm ρ) (sp_cy ρ a) 8 p), h') ∧ CX h' ρ := by
  have hb := P_le hv.1
  obtain ⟨x, e1, e2⟩ := clouds_c a hv.1 c.N
  obtain ⟨h', g1, g2, g3⟩ := year_in a (nI p) hv e2 (sp_P ρ) 0 fd_fu h (Nat.zero_add _) (by have := fu_ge; omega) c (fun q hq => absurd hq (Nat.not_lt_zero q))
  refine ⟨h', ?_, g1⟩
  rw [if_neg (m1_ne (by omega)), firstOf_eq (k := 58) (N := sp_N ρ) (q := fun i => sp_fr ρ (sp_wm ρ) (sp_cy ρ a) 8 i p) (by omega) (N_le hv.1) (g2 p hp)] at g3
  unfold fX8_year_L19
  rw [e1, Option.bind_some]
  exact g3
