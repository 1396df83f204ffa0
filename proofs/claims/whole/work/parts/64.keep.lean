/-! ===== the least smoke ===== -/
theorem choice_cases (a : Int32) {n : Nat} (hn : n < 2147483648) : (a = -1 ∨ ∃ j, j < n ∧ a = nI j) ∨ (a < -1 ∨ nI n ≤ a) := by
  rcases pk_ix a hn with h | h | ⟨j, h1, h2⟩
  · by_cases c : a = -1
    · exact Or.inl (Or.inl c)
    · right; left
      rw [Int32.lt_iff_toInt_lt] at h ⊢
      have e0 : (0 : Int32).toInt = 0 := rfl
      have e1 : (-1 : Int32).toInt = -1 := rfl
      have c2 : ¬ a.toInt = (-1 : Int32).toInt := fun q => c (Int32.toInt_inj.mp q)
      omega
  · exact Or.inr (Or.inr h)
  · exact Or.inl (Or.inr ⟨j, h1, h2⟩)
theorem m1_nlt {j : Nat} (hj : j < 2147483648) : ¬ nI j < -1 := by
  rw [Int32.lt_iff_toInt_lt, nI_toInt hj]
  have e1 : (-1 : Int32).toInt = -1 := rfl
  omega
theorem choice_y {a : Int32} {n : Nat} (hn : n + 1 < 2147483648) (h : a = -1 ∨ ∃ j, j < n + 1 ∧ a = nI j) : fX8_isChoice a (nI (n + 1)) = some true ∧ fX9_in a (-1) (nI n) = some true := by
  unfold fX8_isChoice fX9_in
  rcases h with rfl | ⟨j, hj, rfl⟩
  · have k1 : ¬ nI (n + 1) ≤ -1 := by
      rw [Int32.le_iff_toInt_le, nI_toInt hn]
      have e1 : (-1 : Int32).toInt = -1 := rfl
      omega
    have k2 : ¬ nI n < -1 := m1_nlt (by omega)
    rw [if_neg (by decide), if_neg k1, if_neg (by decide), if_neg k2]
    exact ⟨rfl, rfl⟩
  · rw [if_neg (m1_nlt (by omega)), if_neg (nI_ge hj hn), if_neg (m1_nlt (by omega)), if_neg (nI_nlt (by omega) (by omega))]
    exact ⟨rfl, rfl⟩
theorem choice_n {a : Int32} {n : Nat} (hn : n + 1 < 2147483648) (h : a < -1 ∨ nI (n + 1) ≤ a) : fX8_isChoice a (nI (n + 1)) = some false ∧ fX9_in a (-1) (nI n) = some false := by
  unfold fX8_isChoice fX9_in
  rcases h with h | h
  · rw [if_pos h, if_pos h]; exact ⟨rfl, rfl⟩
  · by_cases c : a < -1
    · rw [if_pos c, if_pos c]; exact ⟨rfl, rfl⟩
    · have k : nI n < a := by
        rw [Int32.lt_iff_toInt_lt, nI_toInt (by omega)]
        rw [Int32.le_iff_toInt_le, nI_toInt hn] at h
        omega
      rw [if_neg c, if_neg c, if_pos h, if_pos k]; exact ⟨rfl, rfl⟩
theorem first_any {q : Nat → Bool} {N n : Nat} (hn : n < 40) : sp_first q N ≤ n ↔ sp_any q (min N (n + 1)) = true := by
  rw [any_iff]
  constructor
  · intro h
    unfold sp_first at h
    by_cases c : sp_fs q N < N
    · rw [if_pos c] at h
      exact ⟨sp_fs q N, by omega, fs_yes q N c⟩
    · rw [if_neg c] at h; omega
  · rintro ⟨i, h1, h2⟩
    have z : sp_fs q N ≤ i := by
      rcases Nat.lt_or_ge i (sp_fs q N) with z | z
      · rw [fs_no q N i z] at h2; cases h2
      · exact z
    unfold sp_first
    rw [if_pos (by omega)]; omega
/-- the night t is the j-th of those with q -/
def sp_jt (q : Nat → Bool) (j t : Nat) : Bool := q t && decide (sp_ct q t = j)
def sp_fd (q : Nat → Bool) (a : Int32) (t : Nat) : Int32 := if a = -1 then -1 else sp_fI (sp_first (sp_jt q a.toNatClampNeg) t)
def sp_ci (q : Nat → Bool) (K : Nat) (a : Int32) : Int32 := if a = -1 then nI (sp_ct q K) else sp_fd q a K
theorem jt_no {q : Nat → Bool} {j t u : Nat} (ht : sp_jt q j t = true) (hu : u < t) : sp_jt q j u = false := by
  cases h : sp_jt q j u
  · rfl
  · unfold sp_jt at h ht
    rw [Bool.and_eq_true, decide_eq_true_eq] at h ht
    have m := ct_mono (q := q) (a := u + 1) t hu
    rw [ct_s1 h.1] at m
    omega
theorem first_s0 {s : Nat → Bool} {t : Nat} (h : s t = false) : sp_first s (t + 1) = sp_first s t := by
  have l := fs_le s t
  have e : sp_fs s (t + 1) = if sp_fs s t < t then sp_fs s t else t + 1 := by
    show (if sp_fs s t < t then sp_fs s t else if s t = true then t else t + 1) = _
    rw [h]; rfl
  unfold sp_first
  rw [e]
  by_cases c : sp_fs s t < t
  · rw [if_pos c, if_pos c, if_pos (by omega)]
  · rw [if_neg c, if_neg c, if_neg (by omega)]
theorem fd_s {q : Nat → Bool} {a : Int32} {t : Nat} (ha : a = -1 ∨ ∃ j, j < 40 ∧ a = nI j) (ht : t < 40) : sp_fd q a (t + 1) = if q t = true ∧ nI (sp_ct q t) = a then nI t else sp_fd q a t := by
  have l := ct_le q t
  unfold sp_fd
  rcases ha with rfl | ⟨j, hj, rfl⟩
  · rw [if_pos rfl, if_pos rfl, if_neg (fun z => m1_ne (by omega) z.2)]
  · have n1 : ¬ nI j = -1 := m1_ne (by omega)
    rw [if_neg n1, if_neg n1, nI_clamp (by omega)]
    by_cases c : q t = true ∧ sp_ct q t = j
    · have s : sp_jt q j t = true := by unfold sp_jt; rw [c.1, decide_eq_true c.2]; rfl
      rw [if_pos ⟨c.1, by rw [c.2]⟩]
      have e : sp_fs (sp_jt q j) (t + 1) = t := fs_eq (by omega) s (fun u hu => jt_no s hu)
      unfold sp_first sp_fI
      rw [e, if_pos (Nat.lt_succ_self t), if_pos ht]
    · have s : sp_jt q j t = false := by
        unfold sp_jt
        cases h : q t
        · rfl
        · rw [decide_eq_false (fun z => c ⟨h, z⟩)]; rfl
      rw [if_neg (fun z => c ⟨z.1, (nI_eq (by omega) (by omega)).mp z.2⟩), first_s0 s]
theorem s1_sub (a b : Int32) : a - (b + 1) = a - b + (-1) := by
  rw [Int32.sub_eq_add_neg, Int32.sub_eq_add_neg, Int32.neg_add, Int32.sub_eq_add_neg, Int32.add_assoc]
theorem sub0 {a b : Int32} : a - b = 0 ↔ a = b := by
  constructor
  · intro h
    have e : a - b + b = a := Int32.sub_add_cancel a b
    rw [h, Int32.zero_add] at e
    exact e.symm
  · rintro rfl; exact Int32.sub_self a
theorem countOrItem_eq {x : Int64} {q : Nat → Bool} {K : Nat} {a : Int32} (hK : K ≤ 40) (ha : a = -1 ∨ ∃ j, j < 40 ∧ a = nI j) (hx : ∀ i, i < 64 → gb x i = (decide (i < K) && q i)) : fX8_countOrItem x a = some (sp_ci q K a) := by
  unfold fX8_countOrItem sp_ci
  rcases ha with rfl | ⟨j, hj, rfl⟩
  · rw [if_pos rfl, if_pos rfl, bitCount_ct (by omega) hx]; rfl
  · have n1 : ¬ nI j = -1 := m1_ne (by omega)
    rw [if_neg n1, if_neg n1]
    have key := lpe (F := fun n (v : Int32) i => fX8_countOrItem_L15 x (nI j) n v i) (fun i => nI j - nI (sp_ct (gb x) i)) 40 (res := some (-1)) (fun i => sp_jt (gb x) j i) (fun i => some (nI i))
      (by
        intro n
        show fX8_countOrItem_L15 x (nI j) (n + 1) (nI j - nI (sp_ct (gb x) 40)) (nI 40) = _
        rw [fX8_countOrItem_L15]; rfl)
      (by
        intro n i hi
        have l := ct_le (gb x) i
        show fX8_countOrItem_L15 x (nI j) (n + 1) (nI j - nI (sp_ct (gb x) i)) (nI i) = if sp_jt (gb x) j i = true then some (nI i) else fX8_countOrItem_L15 x (nI j) n (nI j - nI (sp_ct (gb x) (i + 1))) (nI (i + 1))
        rw [fX8_countOrItem_L15]; dsimp only
        rw [show (40 : Int32) = nI 40 from rfl, if_neg (nI_ge hi (by omega)), hasBit_eq (by omega), Option.bind_some, nI_1]
        unfold sp_jt
        cases h : gb x i
        · rw [ct_s0 h]; rfl
        · rw [ct_s1 h, nI_succ (sp_ct (gb x) i), s1_sub, if_pos rfl, Bool.true_and]
          by_cases c : sp_ct (gb x) i = j
          · rw [decide_eq_true c, if_pos rfl, if_pos (sub0.mpr (by rw [c]))]
          · rw [decide_eq_false c, if_neg (fun z => c ((nI_eq (by omega) (by omega)).mp (sub0.mp z).symm)), if_neg (by decide)])
      40 0 fd_fu (by omega) (by have := fu_ge; omega)
    have s0 : nI j - nI (sp_ct (gb x) 0) = nI j := by
      show nI j - nI 0 = nI j
      rw [pk_sub (Nat.zero_le _)]; rfl
    have key : fX8_countOrItem_L15 x (nI j) fd_fu (nI j - nI (sp_ct (gb x) 0)) 0 = sp_srch (fun i => sp_jt (gb x) j i) (fun i => some (nI i)) (some (-1)) 40 0 := key
    rw [s0] at key
    rw [key]
    have hl : ∀ t, t < K → sp_jt (gb x) j t = sp_jt q j t := by
      intro t ht
      unfold sp_jt
      rw [ct_cong (q := gb x) (r := q) (fun u hu => by rw [hx u (by omega), decide_eq_true (by omega : u < K), Bool.true_and]), hx t (by omega), decide_eq_true ht, Bool.true_and]
    have hh : ∀ t, K ≤ t → t < 64 → sp_jt (gb x) j t = false := by
      intro t h1 h2
      unfold sp_jt
      rw [hx t h2, decide_eq_false (by omega), Bool.false_and, Bool.false_and]
    unfold sp_fd
    rw [if_neg n1, nI_clamp (by omega)]
    unfold sp_first sp_fI
    have hfl := fs_le (sp_jt q j) K
    by_cases c : sp_fs (sp_jt q j) K < K
    · rw [if_pos c, if_pos (by omega), srch_at (k := sp_fs (sp_jt q j) K) (by rw [hl _ c]; exact fs_yes _ K c) _ _ (Nat.zero_le _) (by omega) (fun u _ hu => by rw [hl u (by omega)]; exact fs_no _ K u hu)]
    · rw [if_neg c, if_neg (by omega), srch_no _ _ (fun u _ hu => by
        rcases Nat.lt_or_ge u K with z | z
        · rw [hl u z]; exact fs_no _ K u (by omega)
        · exact hh u z (by omega))]
def sp_kp (ρ : fd_H) (p n : Nat) (a : Int32) : Int32 := if sp_first (fun i => sp_ic ρ 8 i p) (sp_N ρ) ≤ n then -1 else sp_ci (fun i => sp_fr ρ (sp_wm ρ) (sp_cl ρ) 8 i p) (min (sp_N ρ) (n + 1)) a
theorem min_dec (i N n : Nat) : (decide (i < N) && decide (i < n + 1)) = decide (i < min N (n + 1)) := by
  by_cases c1 : i < N
  · rw [decide_eq_true c1, Bool.true_and]; exact decide_eq_decide.mpr (by omega)
  · rw [decide_eq_false c1, decide_eq_false (by omega : ¬ i < min N (n + 1))]; rfl
theorem keep_c {h ρ : fd_H} {p n : Nat} {a : Int32} (hv : sp_V ρ) (c : CX h ρ) (hp : p < sp_P ρ) (hn : n < 40) (ha : a = -1 ∨ ∃ j, j < 40 ∧ a = nI j) : fX8_keep (nI p) (nI n) a h = some (sp_kp ρ p n a) := by
  have hb := P_le hv.1
  have hN := N_le hv.1
  unfold fX8_keep sp_kp
  rw [has_y c.P.1 hp (by omega), Option.bind_some, if_pos rfl, show (40 : Int32) = nI (39 + 1) from rfl, below_y (n := 39 + 1) hn (by omega), Option.bind_some, if_pos rfl, (choice_y (n := 39) (by omega) ha).1, Option.bind_some, if_pos rfl, isBy_eq (N := sp_N ρ) (q := fun i => sp_ic ρ 8 i p) (by omega) hn hN (fun i hi => (c.W.2 p hp i hi).2.1), Option.bind_some]
  by_cases z : sp_first (fun i => sp_ic ρ 8 i p) (sp_N ρ) ≤ n
  · rw [if_pos z, decide_eq_true z, if_pos rfl]
  · rw [if_neg z, decide_eq_false z, if_neg (by decide), sat_in (by omega), Option.bind_some]
    unfold fX8_bitsUpTo
    rw [Option.bind_some, countOrItem_eq (q := fun i => sp_fr ρ (sp_wm ρ) (sp_cl ρ) 8 i p) (K := min (sp_N ρ) (n + 1)) (by omega) ha (fun i hi => by
      rw [gb_and, (c.W.2 p hp i hi).2.2, upto_tab n (by omega) i hi, Bool.and_right_comm, min_dec])]
    rfl
theorem keep_step {m ρ : fd_H} {p n t : Nat} {a : Int32} (hv : sp_V ρ) (h1 : mt m ρ (sp_wm ρ) (sp_cl ρ) 8) (hp : p < sp_P ρ) (hn : n < 40) (ht : t < min (sp_N ρ) (n + 1)) (hi : sp_ic ρ 8 t p = false) (f : Nat) (v4 v5 : Int32) : fX9_keepOf_L13 (nI p) (nI n) a (f + 1) v4 v5 (nI t) m = fX9_keepOf_L13 (nI p) (nI n) a f (v4 + fd_b (sp_fr ρ (sp_wm ρ) (sp_cl ρ) 8 t p)) (if sp_fr ρ (sp_wm ρ) (sp_cl ρ) 8 t p = true ∧ v4 = a then nI t else v5) (nI (t + 1)) m := by
  have hb := P_le hv.1
  have hN := N_le hv.1
  have ef : sp_fr ρ (sp_wm ρ) (sp_cl ρ) 8 t p = (!sp_cl ρ t && (sp_cold ρ t p (sp_wm ρ t) && !sp_sm ρ t p)) := by unfold sp_fr; rw [hi]; rfl
  rw [ef, fX9_keepOf_L13]; dsimp only
  rw [if_neg (nI_nlt (by omega) (by omega)), h1.2.2.1.1, if_neg (nI_ge (by omega) (by omega)), show (2 : Int32) = nI 2 from rfl, isTold_eq h1.1 hv.2.1 h1.2.2.2.2.2 (by omega) (by omega) (by omega), told2, Option.bind_some, hi, if_neg (by decide), in_nI (by omega) (by omega), fd_g, if_pos rfl, nI_clamp (by omega), h1.2.2.2.2.1 t (by omega), mcold_eq hv.1 hv.2.1 h1 (by omega) hp (wm_le (by omega)), Option.bind_some]
  unfold fX9_keepOf_L65 fX9_keepOf_L66 fX9_keepOf_L84 fX9_keepOf_L86 fX9_keepOf_L100
  rw [fd_lt, fd_lt, nI_1]
  by_cases e : v4 = a
  · rw [if_pos e]
    cases sp_cl ρ t <;> cases (sp_cold ρ t p (sp_wm ρ t) && !sp_sm ρ t p)
    · rfl
    · rw [if_pos (show (!false && true) = true ∧ v4 = a from ⟨rfl, e⟩)]; rfl
    · rfl
    · rfl
  · rw [if_neg e]
    cases sp_cl ρ t <;> cases (sp_cold ρ t p (sp_wm ρ t) && !sp_sm ρ t p)
    · rfl
    · rw [if_neg (fun z : (!false && true) = true ∧ v4 = a => e z.2)]; rfl
    · rfl
    · rfl
theorem keepOf_eq {m ρ : fd_H} {p n : Nat} {a : Int32} (hr : sp_raw m = ρ) (hv : sp_V ρ) (hp : p < sp_P ρ) (hn : n < 40) (ha : a = -1 ∨ ∃ j, j < 40 ∧ a = nI j) : ∃ m', fX9_keepOf (nI p) (nI n) a m = some (sp_kp ρ p n a, m') ∧ mt m' ρ (sp_wm ρ) (sp_cl ρ) 8 := by
  have hb := P_le hv.1
  have hN := N_le hv.1
  obtain ⟨m1, e1, h1⟩ := asTold_eq hr hv.1 hv.2.1
  refine ⟨m1, ?_, h1⟩
  unfold fX9_keepOf
  rw [e1, Option.bind_some]
  have st0 : (nI (sp_ct (fun i => sp_fr ρ (sp_wm ρ) (sp_cl ρ) 8 i p) 0), sp_fd (fun i => sp_fr ρ (sp_wm ρ) (sp_cl ρ) 8 i p) a 0) = ((0 : Int32), (-1 : Int32)) := by
    unfold sp_fd
    by_cases c : a = -1
    · rw [if_pos c]; rfl
    · rw [if_neg c]; rfl
  have go : ∀ T, T ≤ min (sp_N ρ) (n + 1) → (∀ t, t < T → sp_ic ρ 8 t p = false) → ∀ res, (∀ f, fX9_keepOf_L13 (nI p) (nI n) a (f + 1) (nI (sp_ct (fun i => sp_fr ρ (sp_wm ρ) (sp_cl ρ) 8 i p) T)) (sp_fd (fun i => sp_fr ρ (sp_wm ρ) (sp_cl ρ) 8 i p) a T) (nI T) m1 = res) → fX9_keepOf_L13 (nI p) (nI n) a fd_fu 0 (-1) 0 m1 = res := by
    intro T hT hi res hres
    have k := lp0 (F := fun f (v : Int32 × Int32) i => fX9_keepOf_L13 (nI p) (nI n) a f v.1 v.2 i m1) (fun t => (nI (sp_ct (fun i => sp_fr ρ (sp_wm ρ) (sp_cl ρ) 8 i p) t), sp_fd (fun i => sp_fr ρ (sp_wm ρ) (sp_cl ρ) 8 i p) a t)) T (by omega) (res := res) hres (by
      intro f t ht
      have l := ct_le (fun i => sp_fr ρ (sp_wm ρ) (sp_cl ρ) 8 i p) t
      show fX9_keepOf_L13 (nI p) (nI n) a (f + 1) (nI (sp_ct (fun i => sp_fr ρ (sp_wm ρ) (sp_cl ρ) 8 i p) t)) (sp_fd (fun i => sp_fr ρ (sp_wm ρ) (sp_cl ρ) 8 i p) a t) (nI t) m1 = fX9_keepOf_L13 (nI p) (nI n) a f (nI (sp_ct (fun i => sp_fr ρ (sp_wm ρ) (sp_cl ρ) 8 i p) (t + 1))) (sp_fd (fun i => sp_fr ρ (sp_wm ρ) (sp_cl ρ) 8 i p) a (t + 1)) (nI (t + 1)) m1
      rw [keep_step hv h1 hp hn (by omega) (hi t ht), fd_s ha (by omega)]
      have ec : nI (sp_ct (fun i => sp_fr ρ (sp_wm ρ) (sp_cl ρ) 8 i p) t) + fd_b (sp_fr ρ (sp_wm ρ) (sp_cl ρ) 8 t p) = nI (sp_ct (fun i => sp_fr ρ (sp_wm ρ) (sp_cl ρ) 8 i p) (t + 1)) := by
        cases z : sp_fr ρ (sp_wm ρ) (sp_cl ρ) 8 t p
        · rw [ct_s0 (q := fun i => sp_fr ρ (sp_wm ρ) (sp_cl ρ) 8 i p) z, show fd_b false = nI 0 from rfl, nI_add]; rfl
        · rw [ct_s1 (q := fun i => sp_fr ρ (sp_wm ρ) (sp_cl ρ) 8 i p) z, show fd_b true = nI 1 from rfl, nI_add]
      rw [ec])
    dsimp only at k
    rw [(Prod.mk.inj st0).1, (Prod.mk.inj st0).2] at k
    exact k
  unfold sp_kp
  by_cases z : sp_first (fun i => sp_ic ρ 8 i p) (sp_N ρ) ≤ n
  · rw [if_pos z]
    unfold sp_first at z
    by_cases c : sp_fs (fun i => sp_ic ρ 8 i p) (sp_N ρ) < sp_N ρ
    · rw [if_pos c] at z
      have yes := fs_yes _ _ c
      have no := fs_no (fun i => sp_ic ρ 8 i p) (sp_N ρ)
      generalize sp_fs (fun i => sp_ic ρ 8 i p) (sp_N ρ) = T at *
      refine go T (by omega) no _ (fun f => ?_)
      rw [fX9_keepOf_L13]; dsimp only
      rw [if_neg (nI_nlt z (by omega)), h1.2.2.1.1, if_neg (nI_ge c (by omega)), show (2 : Int32) = nI 2 from rfl, isTold_eq h1.1 hv.2.1 h1.2.2.2.2.2 (by omega) (by omega) (by omega), told2, Option.bind_some, yes, if_pos rfl]
    · rw [if_neg c] at z; omega
  · rw [if_neg z]
    have z2 : ∀ t, t < min (sp_N ρ) (n + 1) → sp_ic ρ 8 t p = false := by
      intro t ht
      cases y : sp_ic ρ 8 t p
      · rfl
      · exact absurd ((first_any (q := fun i => sp_ic ρ 8 i p) hn).mpr (any_iff.mpr ⟨t, ht, y⟩)) z
    refine go _ (Nat.le_refl _) z2 _ (fun f => ?_)
    rw [fX9_keepOf_L13]; dsimp only
    unfold fX9_keepOf_L109 sp_ci
    by_cases c1 : n < min (sp_N ρ) (n + 1)
    · rw [if_pos (nI_lt c1 (by omega))]
      by_cases c2 : a = -1
      · rw [if_pos c2, if_pos c2]
      · rw [if_neg c2, if_neg c2]
    · rw [if_neg (nI_nlt (by omega) (by omega)), h1.2.2.1.1, if_pos (nI_le (by omega) (by omega))]
      by_cases c2 : a = -1
      · rw [if_pos c2, if_pos c2]
      · rw [if_neg c2, if_neg c2]
theorem q_keep : pp_keep RR := by
  intro hx hm a b d ⟨ρ, hr, hv, hc⟩
  have hb := P_le hv.1
  rcases below_cases a (n := sp_P ρ) (by omega) with ⟨p, hp, rfl⟩ | h
  · obtain ⟨m1, e1, h1⟩ := isPlace_y hr hv.1 hp
    rcases below_cases b (n := 40) (by omega) with ⟨n, hn, rfl⟩ | h2
    · rcases choice_cases d (n := 40) (by omega) with h3 | h3
      · obtain ⟨m2, e2, h2⟩ := keepOf_eq h1.1 hv hp hn h3
        rw [keep_c hv hc hp hn h3]
        unfold fX9_keep
        rw [e1, Option.bind_some]; dsimp only
        rw [if_pos rfl, isForty_y hn, Option.bind_some, if_pos rfl, show (39 : Int32) = nI 39 from rfl, (choice_y (n := 39) (by omega) h3).2, Option.bind_some, if_pos rfl, e2]
        exact ⟨_, m2, rfl, rfl, ρ, h2.1, hv, hc⟩
      · unfold fX8_keep fX9_keep
        rw [e1, Option.bind_some]; dsimp only
        rw [if_pos rfl, isForty_y hn, Option.bind_some, if_pos rfl, show (39 : Int32) = nI 39 from rfl, (choice_n (n := 39) (by omega) h3).2, has_y hc.P.1 hp (by omega), Option.bind_some, if_pos rfl, show (40 : Int32) = nI (39 + 1) from rfl, below_y (n := 39 + 1) hn (by omega), Option.bind_some, if_pos rfl, (choice_n (n := 39) (by omega) h3).1]
        exact ⟨_, m1, rfl, rfl, ρ, h1.1, hv, hc⟩
    · unfold fX8_keep fX9_keep
      rw [e1, Option.bind_some]; dsimp only
      rw [if_pos rfl, isForty_n h2, has_y hc.P.1 hp (by omega), Option.bind_some, if_pos rfl, show (40 : Int32) = nI 40 from rfl, below_n h2]
      exact ⟨_, m1, rfl, rfl, ρ, h1.1, hv, hc⟩
  · obtain ⟨m1, e1, h1⟩ := isPlace_n hr hv.1 h
    unfold fX8_keep fX9_keep
    rw [e1, has_n hc.P.1 h]
    exact ⟨_, m1, rfl, rfl, ρ, h1.1, hv, hc⟩
