/-! ===== the class's weather ===== -/
def cx_M (h ρ : fd_H) : Prop := h.1 11 6 = nI (sp_zr ρ) ∧ ∀ k, k < 3 → h.1 (19 + 7 * k) 3 = nI (sp_mc ρ k) ∧ ∀ i, i < sp_mc ρ k → h.1 (21 + 7 * k) i = nI (sp_mn ρ k i) ∧ h.1 (23 + 7 * k) i = nI (sp_mp ρ k i)
def sp_wI (w : Nat) : Int32 := if w < 8 then nI w else -1
theorem m1_ne {i : Nat} (hi : i < 2147483648) : ¬ nI i = -1 := by
  intro q
  have := congrArg Int32.toInt q
  rw [nI_toInt hi] at this
  have e : (-1 : Int32).toInt = -1 := rfl
  rw [e] at this
  omega
theorem wI_eq {i w : Nat} (hi : i < 8) : (nI i = sp_wI w) ↔ i = w := by
  unfold sp_wI
  by_cases h : w < 8
  · rw [if_pos h]; exact nI_eq (by omega) (by omega)
  · rw [if_neg h]
    exact ⟨fun q => absurd q (m1_ne (by omega)), fun q => absurd q (by omega)⟩
theorem nightsAt_eq {h ρ : fd_H} {k p w : Nat} (hv : sp_V2 ρ) (hM : cx_M h ρ) (hk : k < 3) (hp : p < 8) : ∃ x, fX1_nightsAt (19 + 7 * k) (nI p) (sp_wI w) h = some x ∧ ∀ i, i < 64 → gb x i = sp_any (fun j => decide (sp_mn ρ k j = i) && decide (sp_mp ρ k j = p) && !decide (j = w)) (sp_mc ρ k) := by
  obtain ⟨v1, v2, v3⟩ := hv.2.2 k hk
  obtain ⟨c1, c2⟩ := hM.2 k hk
  unfold fX1_nightsAt
  refine lpi0 (F := fun n a i => fX1_nightsAt_L5 (19 + 7 * k) (nI p) (sp_wI w) h n a i) (fun m x => ∀ i, i < 64 → gb x i = sp_any (fun j => decide (sp_mn ρ k j = i) && decide (sp_mp ρ k j = p) && !decide (j = w)) m) (sp_mc ρ k) (by omega) (post := fun r => ∃ x, r = some x ∧ ∀ i, i < 64 → gb x i = sp_any (fun j => decide (sp_mn ρ k j = i) && decide (sp_mp ρ k j = p) && !decide (j = w)) (sp_mc ρ k)) ?_ ?_ ?_
  · intro i hi; rw [gb_0]; rfl
  · intro n x hx
    refine ⟨x, ?_, hx⟩
    rw [fX1_nightsAt_L5]; dsimp only
    rw [c1, if_pos (nI_le (Nat.le_refl _) (by omega))]
  · intro n j x hj hx
    obtain ⟨w1, w2⟩ := c2 j hj
    obtain ⟨⟨-, u1⟩, -, u2, -⟩ := v3 j hj
    have step : fX1_nightsAt_L5 (19 + 7 * k) (nI p) (sp_wI w) h (n + 1) x (nI j) = fX1_nightsAt_L5 (19 + 7 * k) (nI p) (sp_wI w) h n (if j ≠ w ∧ sp_mp ρ k j = p then x ||| fd_lshl 1 (nI (sp_mn ρ k j)) else x) (nI (j + 1)) := by
      rw [fX1_nightsAt_L5]; dsimp only
      rw [c1, if_neg (nI_ge hj (by omega)), nI_1]
      by_cases e : j = w
      · rw [if_pos ((wI_eq (by omega)).mpr e), if_neg (fun q => q.1 e)]
      · rw [if_neg (fun q => e ((wI_eq (by omega)).mp q)), at_in (by omega) (by omega), Option.bind_some, show 19 + 7 * k + 3 + 1 = 23 + 7 * k by omega, w2]
        by_cases e2 : sp_mp ρ k j = p
        · rw [if_pos (by rw [e2]), at_in (by omega) (by omega), Option.bind_some, show 19 + 7 * k + 1 + 1 = 21 + 7 * k by omega, w1, fd_lt, if_pos ⟨e, e2⟩]
        · rw [if_neg (nI_ne e2 (by omega) (by omega)), if_neg (fun q => e2 q.2)]
    refine ⟨_, ?_, step⟩
    intro i hi
    show _ = (sp_any _ j || (decide (sp_mn ρ k j = i) && decide (sp_mp ρ k j = p) && !decide (j = w)))
    rw [← hx i hi]
    by_cases e : j ≠ w ∧ sp_mp ρ k j = p
    · rw [if_pos e, gb_or, gb_sh1 (by omega), decide_eq_true e.2, decide_eq_false e.1]
      congr 1
      rw [Bool.and_true, Bool.not_false, Bool.and_true]
      exact decide_eq_decide.mpr ⟨fun q => q.symm, fun q => q.symm⟩
    · rw [if_neg e]
      have : (decide (sp_mn ρ k j = i) && decide (sp_mp ρ k j = p) && !decide (j = w)) = false := by
        by_cases e1 : j = w
        · rw [decide_eq_true e1, Bool.not_true, Bool.and_false]
        · have e2 : ¬ sp_mp ρ k j = p := fun q => e ⟨e1, q⟩
          rw [decide_eq_false e2, Bool.and_false, Bool.false_and]
      rw [this, Bool.or_false]
theorem wt_tab : ∀ w, w < 26 → ∀ t, t < 10 → ∀ k, k < 4 → (nI w + (sp_lfI k - nI t)).toInt = (w : Int) - t + sp_lift k := by decide +kernel
theorem isCold_eq {h ρ : fd_H} {n p w : Nat} (hv : sp_V2 ρ) (hM : cx_M h ρ) (hP : cx_P h ρ) (hb : sp_P ρ ≤ 8) (hp : p < sp_P ρ) (hn : n < 40) (hw : w ≤ 25) : fX7_isCold (nI n) (nI p) (nI w) h = some (sp_cold ρ n p w) := by
  obtain ⟨p1, p2, p3⟩ := hP.2 p hp
  have k3 := kd_le (ρ := ρ) (p := p)
  have h9 := ht_le hp
  have hz := hv.2.1
  have fin : ∀ b : Bool, fX7_isCold_L26 (nI n) (nI p) (nI w) h b = some (decide (sp_wt ρ p w < sp_zr ρ) && !b) := by
    intro b
    unfold fX7_isCold_L26
    rw [at_in (by omega) (by omega), p3, Option.bind_some, hM.1]
    have e : (nI (sp_zr ρ) ≤ nI w + (sp_lfI (sp_kd ρ p) - nI (sp_ht ρ p))) ↔ ¬ sp_wt ρ p w < sp_zr ρ := by
      rw [Int32.le_iff_toInt_le, nI_toInt (by omega), wt_tab w (by omega) _ (by omega) _ (by omega)]
      unfold sp_wt
      omega
    by_cases c : sp_wt ρ p w < sp_zr ρ
    · rw [if_neg (fun q => (e.mp q) c), decide_eq_true c]
      cases b <;> rfl
    · rw [if_pos (e.mpr c), decide_eq_false c]
      cases b <;> rfl
  unfold fX7_isCold fX7_isCold_L25 sp_cold
  rw [at_in (by omega) (by omega), p2, Option.bind_some, show (3 : Int32) = nI 3 from rfl, show (20 : Int32) = nI 20 from rfl, fin, fin]
  by_cases e : sp_kd ρ p = 3
  · rw [if_pos (by rw [e]), decide_eq_true e]
    by_cases e2 : n < 20
    · rw [if_neg (nI_ge e2 (by omega)), decide_eq_true e2]; rfl
    · rw [if_pos (nI_le (by omega) (by omega)), decide_eq_false e2]; rfl
  · rw [if_neg (nI_ne e (by omega) (by omega)), decide_eq_false e]; rfl
theorem frost_eq {h ρ : fd_H} {p : Nat} {cy iy : Int64} (hv1 : sp_V1 ρ) (hv : sp_V2 ρ) (hM : cx_M h ρ) (hP : cx_P h ρ) (hN : cx_N h ρ) (hp : p < sp_P ρ) (hs : ∀ i, i < 64 → gb (h.2 43 p) i = sp_sm ρ i p) : ∃ x, fX7_frostNights (nI p) cy iy h = some x ∧ ∀ i, i < 64 → gb x i = (((decide (i < sp_N ρ) && sp_cold ρ i p (sp_wm ρ i)) && !(gb cy i || sp_sm ρ i p)) || gb iy i) := by
  have hb := P_le hv1
  have hn := N_le hv1
  unfold fX7_frostNights
  refine lpi0 (F := fun n a i => fX7_frostNights_L6 (nI p) cy iy h n a i) (fun m x => ∀ i, i < 64 → gb x i = (decide (i < m) && sp_cold ρ i p (sp_wm ρ i))) (sp_N ρ) (by omega) (post := fun r => ∃ x, r = some x ∧ ∀ i, i < 64 → gb x i = (((decide (i < sp_N ρ) && sp_cold ρ i p (sp_wm ρ i)) && !(gb cy i || sp_sm ρ i p)) || gb iy i)) ?_ ?_ ?_
  · intro i hi; rw [gb_0, decide_eq_false (Nat.not_lt_zero i)]; rfl
  · intro n x hx
    refine ⟨(x &&& ((cy ||| h.2 43 p) ^^^ (-1 : Int64))) ||| iy, ?_, ?_⟩
    · rw [fX7_frostNights_L6]; dsimp only
      rw [hN.1, if_pos (nI_le (Nat.le_refl _) (by omega)), sat_in (by omega), Option.bind_some]
    · intro i hi
      rw [gb_or, gb_and, gb_not _ hi, gb_or, hs i hi, hx i hi]
  · intro n j x hj hx
    have r1 := wm_le hj
    have step : fX7_frostNights_L6 (nI p) cy iy h (n + 1) x (nI j) = fX7_frostNights_L6 (nI p) cy iy h n (if sp_cold ρ j p (sp_wm ρ j) = true then x ||| fd_lshl 1 (nI j) else x) (nI (j + 1)) := by
      rw [fX7_frostNights_L6]; dsimp only
      rw [hN.1, if_neg (nI_ge hj (by omega)), at_in (by omega) (by omega), hN.2 j hj, Option.bind_some, isCold_eq hv hM hP hb hp (by omega) r1, Option.bind_some, nI_1]
      cases sp_cold ρ j p (sp_wm ρ j) <;> rfl
    refine ⟨_, ?_, step⟩
    intro i hi
    by_cases e : i = j
    · subst e
      rw [decide_eq_true (Nat.lt_succ_self i), Bool.true_and]
      have h0 := hx i hi
      rw [decide_eq_false (Nat.lt_irrefl i), Bool.false_and] at h0
      cases hc : sp_cold ρ i p (sp_wm ρ i)
      · rw [if_neg (by decide)]; exact h0
      · rw [if_pos rfl, gb_or, gb_sh1 (by omega), decide_eq_true rfl, Bool.or_true]
    · have e1 : decide (i < j + 1) = decide (i < j) := decide_eq_decide.mpr (by omega)
      rw [e1, ← hx i hi]
      cases sp_cold ρ j p (sp_wm ρ j)
      · rw [if_neg (by decide)]
      · rw [if_pos rfl, gb_or, gb_sh1 (by omega), decide_eq_false e, Bool.or_false]
def cx_W (h ρ : fd_H) : Prop := (∀ i, i < 64 → gb (h.2 11 7) i = sp_cl ρ i) ∧ ∀ p, p < sp_P ρ → ∀ i, i < 64 → gb (h.2 43 p) i = sp_sm ρ i p ∧ gb (h.2 45 p) i = (decide (i < sp_N ρ) && sp_ic ρ 8 i p) ∧ gb (h.2 47 p) i = (decide (i < sp_N ρ) && sp_fr ρ (sp_wm ρ) (sp_cl ρ) 8 i p)
theorem any8 {q : Nat → Bool} {m : Nat} (hm : m ≤ 8) : sp_any (fun j => q j && !decide (j = 8)) m = sp_any q m := any_cong (fun j hj => by rw [decide_eq_false (by omega), Bool.not_false, Bool.and_true])
theorem cx_M.of1 {h g ρ : fd_H} (e : g.1 = h.1) (q : cx_M h ρ) : cx_M g ρ := by unfold cx_M at q ⊢; rw [e]; exact q
theorem cx_P.of1 {h g ρ : fd_H} (e : g.1 = h.1) (q : cx_P h ρ) : cx_P g ρ := by unfold cx_P at q ⊢; rw [e]; exact q
theorem cx_N.of1 {h g ρ : fd_H} (e : g.1 = h.1) (q : cx_N h ρ) : cx_N g ρ := by unfold cx_N at q ⊢; rw [e]; exact q
theorem bitsBelow_gb {N i : Nat} (hN : N ≤ 40) (hi : i < 64) : gb (fd_lshl 1 (nI N) - 1) i = decide (i < N) := below_tab N (by omega) i hi
set_option maxHeartbeats 1000000 in
theorem settle_eq {h ρ : fd_H} (hv1 : sp_V1 ρ) (hv : sp_V2 ρ) (hM : cx_M h ρ) (hP : cx_P h ρ) (hN : cx_N h ρ) : ∃ h', fX7_settle h = some h' ∧ h'.1 = h.1 ∧ (∀ x y, ¬ (x = 11 ∧ y = 7) → x ≠ 43 → x ≠ 45 → x ≠ 47 → h'.2 x y = h.2 x y) ∧ cx_W h' ρ := by
  have hb := P_le hv1
  have hn := N_le hv1
  unfold fX7_settle
  obtain ⟨x0, hx0, hg0⟩ := nightsAt_eq (w := 8) (k := 0) (p := 0) hv hM (by omega) (by omega)
  have hx0 : fX1_nightsAt 19 0 (-1) h = some x0 := hx0
  rw [hx0, Option.bind_some, fd_lt]
  have hcl : ∀ i, i < 64 → gb x0 i = sp_cl ρ i := by
    intro i hi
    rw [hg0 i hi, any8 ((hv.2.2 0 (by omega)).2.1)]
    unfold sp_cl
    refine any_cong (fun j hj => ?_)
    rw [decide_eq_true (((hv.2.2 0 (by omega)).2.2 j hj).2.2.2 rfl), Bool.and_true]
  refine lpi0 (F := fun n g i => fX7_settle_L15 n i g) (fun m g => g.1 = h.1 ∧ (∀ x y, ¬ (x = 11 ∧ y = 7) → x ≠ 43 → x ≠ 45 → x ≠ 47 → g.2 x y = h.2 x y) ∧ g.2 11 7 = x0 ∧ ∀ p, p < m → ∀ i, i < 64 → gb (g.2 43 p) i = sp_sm ρ i p ∧ gb (g.2 45 p) i = (decide (i < sp_N ρ) && sp_ic ρ 8 i p) ∧ gb (g.2 47 p) i = (decide (i < sp_N ρ) && sp_fr ρ (sp_wm ρ) (sp_cl ρ) 8 i p)) (sp_P ρ) (by omega) (post := fun r => ∃ h', r = some h' ∧ h'.1 = h.1 ∧ (∀ x y, ¬ (x = 11 ∧ y = 7) → x ≠ 43 → x ≠ 45 → x ≠ 47 → h'.2 x y = h.2 x y) ∧ cx_W h' ρ) ?_ ?_ ?_
  · exact ⟨rfl, fun x y h1 _ _ _ => ul_g h1, ul_s, fun p hp => absurd hp (Nat.not_lt_zero p)⟩
  · intro n g ⟨g1, g2, g3, g4⟩
    refine ⟨g, ?_, g1, g2, fun i hi => by rw [g3]; exact hcl i hi, g4⟩
    rw [fX7_settle_L15]; dsimp only
    rw [g1, hP.1, if_pos (nI_le (Nat.le_refl _) (by omega))]
  · intro n p g hp ⟨g1, g2, g3, g4⟩
    obtain ⟨y1, hy1, hg1⟩ := nightsAt_eq (w := 8) (k := 1) (p := p) hv (hM.of1 g1) (by omega) (by omega)
    have hy1 : fX1_nightsAt 26 (nI p) (-1) g = some y1 := hy1
    have hy1' : ∀ i, i < 64 → gb y1 i = sp_sm ρ i p := fun i hi => by rw [hg1 i hi, any8 ((hv.2.2 1 (by omega)).2.1)]; rfl
    obtain ⟨y2, hy2, hg2⟩ := nightsAt_eq (h := fd_ul g 43 p y1) (w := 8) (k := 2) (p := p) hv (hM.of1 g1) (by omega) (by omega)
    have hy2 : fX1_nightsAt 33 (nI p) (-1) (fd_ul g 43 p y1) = some y2 := hy2
    obtain ⟨y3, hy3, hg3⟩ := frost_eq (h := fd_ul (fd_ul g 43 p y1) 45 p (y2 &&& (fd_lshl 1 (nI (sp_N ρ)) - 1))) (p := p) (cy := x0) (iy := y2 &&& (fd_lshl 1 (nI (sp_N ρ)) - 1)) hv1 hv (hM.of1 g1) (hP.of1 g1) (hN.of1 g1) hp (fun i hi => by rw [ul_g (by omega), ul_s]; exact hy1' i hi)
    refine ⟨fd_ul (fd_ul (fd_ul g 43 p y1) 45 p (y2 &&& (fd_lshl 1 (nI (sp_N ρ)) - 1))) 47 p y3, ⟨g1, ?_, ?_, ?_⟩, ?_⟩
    · intro x y h1 h2 h3 h4
      rw [ul_g (by omega), ul_g (by omega), ul_g (by omega), g2 x y h1 h2 h3 h4]
    · rw [ul_g (by omega), ul_g (by omega), ul_g (by omega), g3]
    · intro q hq i hi
      rcases Nat.lt_or_ge q p with c | c
      · rw [ul_g (by omega), ul_g (by omega), ul_g (by omega), ul_g (a := 45) (by omega), ul_g (a := 45) (by omega), ul_g (a := 45) (by omega), ul_g (a := 47) (by omega), ul_g (a := 47) (by omega), ul_g (a := 47) (by omega)]
        exact g4 q c i hi
      · have e : q = p := by omega
        subst e
        have ei : gb (y2 &&& (fd_lshl 1 (nI (sp_N ρ)) - 1)) i = (decide (i < sp_N ρ) && sp_ic ρ 8 i q) := by
          rw [gb_and, hg2 i hi, bitsBelow_gb hn hi, Bool.and_comm]
          rfl
        refine ⟨by rw [ul_g (by omega), ul_g (by omega), ul_s]; exact hy1' i hi, by rw [ul_g (by omega), ul_s]; exact ei, ?_⟩
        rw [ul_s, hg3 i hi, ei, hcl i hi]
        unfold sp_fr
        cases decide (i < sp_N ρ) <;> cases sp_cold ρ i q (sp_wm ρ i) <;> cases sp_cl ρ i <;> cases sp_sm ρ i q <;> cases sp_ic ρ 8 i q <;> rfl
    · rw [fX7_settle_L15]; dsimp only
      rw [g1, hP.1, if_neg (nI_ge hp (by omega)), hy1, Option.bind_some, sset_in (by omega), Option.bind_some, hy2, Option.bind_some]
      unfold fX8_bitsBelow
      rw [Option.bind_some, ul_1, g1, hN.1, sset_in (by omega), Option.bind_some, sat_in (by omega), ul_s, Option.bind_some, ul_g (by omega), ul_g (by omega), g3, hy3, Option.bind_some, sset_in (by omega), Option.bind_some, nI_1]
/-! reading the bits -/
theorem first_le {q : Nat → Bool} {N n : Nat} (hN : N ≤ 40) (hn : n < 40) : sp_first q N ≤ n ↔ ∃ i, i ≤ n ∧ i < N ∧ q i = true := by
  unfold sp_first
  by_cases h : sp_fs q N < N
  · rw [if_pos h]
    constructor
    · intro q1; exact ⟨_, q1, h, fs_yes q N h⟩
    · rintro ⟨i, h1, h2, h3⟩
      rcases Nat.lt_or_ge i (sp_fs q N) with c | c
      · rw [fs_no q N i c] at h3; cases h3
      · omega
  · rw [if_neg h]
    constructor
    · intro q1; omega
    · rintro ⟨i, h1, h2, h3⟩
      have := fs_no q N i (by have := fs_le q N; omega)
      rw [this] at h3; cases h3
theorem isBy_eq {h : fd_H} {k p n N : Nat} {q : Nat → Bool} (hp : p < 8) (hn : n < 40) (hN : N ≤ 40) (hq : ∀ i, i < 64 → gb (h.2 (k + 1) p) i = (decide (i < N) && q i)) : fX5_isBy k (nI p) (nI n) h = some (decide (sp_first q N ≤ n)) := by
  unfold fX5_isBy fX8_bitsUpTo
  rw [sat_in hp, Option.bind_some, Option.bind_some]
  have e : (¬ (h.2 (k + 1) p &&& (fd_lshl 2 (nI n) - 1)) = 0) ↔ sp_first q N ≤ n := by
    rw [gb_ne, first_le hN hn]
    constructor
    · rintro ⟨i, hi, hg⟩
      rw [gb_and, hq i hi, upto_tab n (by omega) i hi] at hg
      simp only [Bool.and_eq_true, decide_eq_true_eq] at hg
      exact ⟨i, by omega, hg.1.1, hg.1.2⟩
    · rintro ⟨i, h1, h2, h3⟩
      refine ⟨i, by omega, ?_⟩
      rw [gb_and, hq i (by omega), upto_tab n (by omega) i (by omega), h3, decide_eq_true h2, decide_eq_true (by omega : i < n + 1)]
      rfl
  by_cases c : sp_first q N ≤ n
  · rw [if_neg (fun z => (e.mpr c) ((lg_cmp_eq _ _).mp z)), decide_eq_true c]
  · rw [if_pos ((lg_cmp_eq _ _).mpr (Classical.byContradiction fun z => c (e.mp z))), decide_eq_false c]
theorem firstOf_eq {h : fd_H} {k p N : Nat} {q : Nat → Bool} (hp : p < 8) (hN : N ≤ 40) (hq : ∀ i, i < 64 → gb (h.2 (k + 1) p) i = (decide (i < N) && q i)) : fX5_firstOf k (nI p) h = some (sp_fI (sp_first q N)) := by
  unfold fX5_firstOf fX8_countOrItem
  rw [sat_in hp, Option.bind_some, if_neg (by decide)]
  have key := lpe (F := fun n (_ : Unit) i => fX8_countOrItem_L15 (h.2 (k + 1) p) 0 n 0 i) (fun _ => ()) 40 (res := some (-1)) (fun i => decide (i < N) && q i) (fun i => some (nI i))
    (by
      intro n
      show fX8_countOrItem_L15 (h.2 (k + 1) p) 0 (n + 1) 0 (nI 40) = _
      rw [fX8_countOrItem_L15]; rfl)
    (by
      intro n i hi
      show fX8_countOrItem_L15 (h.2 (k + 1) p) 0 (n + 1) 0 (nI i) = _
      rw [fX8_countOrItem_L15]; dsimp only
      rw [show (40 : Int32) = nI 40 from rfl, if_neg (nI_ge hi (by omega)), hasBit_eq (by omega), Option.bind_some, hq i (by omega), nI_1]
      cases (decide (i < N) && q i) <;> rfl)
    40 0 fd_fu (by omega) (by have := fu_ge; omega)
  have key : fX8_countOrItem_L15 (h.2 (k + 1) p) 0 fd_fu 0 0 = _ := key
  rw [key]
  unfold sp_first sp_fI
  by_cases c : sp_fs q N < N
  · have hl := fs_le q N
    rw [if_pos c, if_pos (by omega), srch_at (k := sp_fs q N) (by rw [fs_yes q N c, decide_eq_true c]; rfl) _ _ (Nat.zero_le _) (by omega) (fun j _ hj => by rw [fs_no q N j hj, Bool.and_false])]
    rfl
  · have hl := fs_le q N
    rw [if_neg c, if_neg (by omega), srch_no _ _ (fun j _ hj => by
      by_cases e : j < N
      · rw [fs_no q N j (by omega), Bool.and_false]
      · rw [decide_eq_false e, Bool.false_and])]
    rfl
