/-! ===== the model's reading of the texts ===== -/
def sp_bA (ρ : fd_H) (t i : Nat) : Int32 := if i < sp_tl ρ t then nI (sp_by ρ t i) else -1
theorem byteAt_eq {m ρ : fd_H} {t i : Nat} (hr : sp_raw m = ρ) (hv : sp_V1 ρ) (ht : t < 3) (hi : i < 1000) : fX9_byteAt (nI t) (nI i) m = some (sp_bA ρ t i) := by
  obtain ⟨v1, v2, v3⟩ := hv t ht
  have hc := cp_le t
  unfold fX9_byteAt sp_bA
  rw [in_nI (by omega) (by omega), nI_clamp (by omega), raw_get hr 74 t rfl, v1]
  by_cases h : i < sp_tl ρ t
  · have e : (71 : Int32) * nI t + nI i = nI (71 * t + i) := by rw [show (71 : Int32) = nI 71 from rfl, pk_mul, nI_add]
    rw [if_neg (nI_ge h (by omega)), if_pos h, e, in_nI (by omega) (by omega), nI_clamp (by omega), raw_get hr 75 _ rfl, (v3 i h).1]
    rfl
  · rw [if_pos (nI_le (by omega) (by omega)), if_neg h]
    rfl
theorem in_bA {ρ : fd_H} {t i lo hi : Nat} (hv : sp_V1 ρ) (ht : t < 3) (hl : lo < 256) (hh : hi < 256) : fX9_in (sp_bA ρ t i) (nI lo) (nI hi) = some (decide (i < sp_tl ρ t) && (decide (lo ≤ sp_by ρ t i) && decide (sp_by ρ t i ≤ hi))) := by
  unfold fX9_in sp_bA
  by_cases h : i < sp_tl ρ t
  · have hb := ((hv t ht).2.2 i h).2
    rw [if_pos h, decide_eq_true h, Bool.true_and]
    by_cases h1 : sp_by ρ t i < lo
    · rw [if_pos (nI_lt h1 (by omega)), decide_eq_false (by omega)]; rfl
    · rw [if_neg (nI_nlt (by omega) (by omega)), decide_eq_true (by omega : lo ≤ sp_by ρ t i)]
      by_cases h2 : hi < sp_by ρ t i
      · rw [if_pos (nI_lt h2 (by omega)), decide_eq_false (by omega)]; rfl
      · rw [if_neg (nI_nlt (by omega) (by omega)), decide_eq_true (by omega)]; rfl
  · rw [if_neg h, decide_eq_false h, Bool.false_and]
    have : (-1 : Int32) < nI lo := by
      rw [Int32.lt_iff_toInt_lt, nI_toInt (by omega), show (-1 : Int32).toInt = -1 from rfl]; omega
    rw [if_pos this]
def sp_gd (ρ : fd_H) (t i : Nat) : Bool := decide (i < sp_tl ρ t) && sp_fit ρ t i
theorem bad_at {ρ : fd_H} {t k : Nat} (hk : k ≤ sp_tl ρ t) (hall : ∀ i, i < k → sp_fit ρ t i = true) (hn : sp_gd ρ t k = false) : sp_bad ρ t = k := by
  unfold sp_bad
  rcases Nat.lt_or_ge k (sp_tl ρ t) with h | h
  · refine fs_eq h ?_ (fun j hj => by rw [hall j hj]; rfl)
    unfold sp_gd at hn
    rw [decide_eq_true h, Bool.true_and] at hn
    rw [hn]; rfl
  · have e : k = sp_tl ρ t := by omega
    rw [e]
    exact fs_none (fun j hj => by rw [hall j (by omega)]; rfl)
theorem fault_at {ρ : fd_H} {t k : Nat} (hk : k ≤ sp_tl ρ t) (hall : ∀ i, i < k → sp_fit ρ t i = true) (hn : sp_gd ρ t k = false) (he : k = sp_tl ρ t → sp_end t k = false) : sp_well ρ t = false ∧ sp_fault ρ t = nI k := by
  have hb := bad_at hk hall hn
  have hw : sp_well ρ t = false := by
    unfold sp_well
    rw [hb]
    by_cases h : k = sp_tl ρ t
    · rw [← h, he h, Bool.and_false]
    · rw [decide_eq_false h, Bool.false_and]
  refine ⟨hw, ?_⟩
  unfold sp_fault
  rw [hw, hb]; rfl
theorem well_at {ρ : fd_H} {t : Nat} (hall : ∀ i, i < sp_tl ρ t → sp_fit ρ t i = true) (he : sp_end t (sp_tl ρ t) = true) : sp_well ρ t = true ∧ sp_fault ρ t = -1 := by
  have hb : sp_bad ρ t = sp_tl ρ t := fs_none (fun j hj => by rw [hall j hj]; rfl)
  have hw : sp_well ρ t = true := by unfold sp_well; rw [hb, he, decide_eq_true rfl]; rfl
  refine ⟨hw, ?_⟩
  unfold sp_fault
  rw [hw]; rfl
def mp_P (m ρ : fd_H) : Prop := m.1 73 2 = nI (sp_P ρ) ∧ ∀ p, p < sp_P ρ → m.1 76 p = nI (sp_ht ρ p) ∧ m.1 77 p = nI (sp_kd ρ p)
def mp_N (m ρ : fd_H) : Prop := m.1 73 5 = nI (sp_N ρ) ∧ ∀ n, n < sp_N ρ → m.1 78 n = nI (sp_wm ρ n)
def mp_D (m ρ : fd_H) : Prop := m.1 73 7 = nI (sp_D ρ) ∧ ∀ d, d < sp_D ρ → m.1 79 d = nI (sp_f ρ d 0) ∧ m.1 80 d = nI (sp_f ρ d 1) ∧ m.1 81 d = nI (sp_f ρ d 2) ∧ m.1 82 d = nI (sp_f ρ d 3) ∧ m.1 83 d = nI (sp_f ρ d 4)
/-- a place is read -/
theorem readsPlace_eq {m ρ : fd_H} {n : Nat} (hr : sp_raw m = ρ) (hv : sp_V1 ρ) (hn : n < 8) : fX9_readsPlace (nI n) (nI (3 * n)) m = some (if sp_gd ρ 0 (3 * n) = false then (0, m) else if sp_gd ρ 0 (3 * n + 1) = false then (1, m) else (2, fd_ui (fd_ui m 76 n (nI (sp_ht ρ n))) 77 n (nI (sp_kd ρ n)))) := by
  have hg0 : sp_gd ρ 0 (3 * n) = (decide (3 * n < sp_tl ρ 0) && sp_dig (sp_by ρ 0 (3 * n)) 9) := by
    unfold sp_gd sp_fit sp_fitP
    rw [if_pos rfl, show 3 * n % 3 = 0 by omega, if_pos rfl]
  have hg1 : sp_gd ρ 0 (3 * n + 1) = (decide (3 * n + 1 < sp_tl ρ 0) && decide (sp_by ρ 0 (3 * n + 1) = 104 ∨ sp_by ρ 0 (3 * n + 1) = 111 ∨ sp_by ρ 0 (3 * n + 1) = 115 ∨ sp_by ρ 0 (3 * n + 1) = 119)) := by
    unfold sp_gd sp_fit sp_fitP
    rw [if_pos rfl, show (3 * n + 1) % 3 = 1 by omega, if_neg (by decide), if_pos rfl]
  have hin : fX9_in (sp_bA ρ 0 (3 * n) - 48) 0 9 = some (sp_gd ρ 0 (3 * n)) := by
    rw [hg0]
    unfold fX9_in sp_bA sp_dig
    by_cases h : 3 * n < sp_tl ρ 0
    · have hb := ((hv 0 (by omega)).2.2 _ h).2
      rw [if_pos h, decide_eq_true h, Bool.true_and, show (48 : Int32) = nI 48 from rfl]
      have e1 : (nI (sp_by ρ 0 (3 * n)) - nI 48 < 0) ↔ sp_by ρ 0 (3 * n) < 48 := by
        rw [Int32.lt_iff_toInt_lt, pk_sub_toInt (by omega) (by omega), show (0 : Int32).toInt = 0 from rfl]; omega
      have e2 : ((9 : Int32) < nI (sp_by ρ 0 (3 * n)) - nI 48) ↔ 57 < sp_by ρ 0 (3 * n) := by
        rw [Int32.lt_iff_toInt_lt, pk_sub_toInt (by omega) (by omega), show (9 : Int32).toInt = 9 from rfl]; omega
      by_cases h1 : sp_by ρ 0 (3 * n) < 48
      · rw [if_pos (e1.mpr h1), decide_eq_false (by omega)]; rfl
      · rw [if_neg (fun q => h1 (e1.mp q)), decide_eq_true (by omega : 48 ≤ sp_by ρ 0 (3 * n))]
        by_cases h2 : 57 < sp_by ρ 0 (3 * n)
        · rw [if_pos (e2.mpr h2), decide_eq_false (by omega)]; rfl
        · rw [if_neg (fun q => h2 (e2.mp q)), decide_eq_true (by omega)]; rfl
    · rw [if_neg h, decide_eq_false h]; rfl
  have fin : ∀ kv : Int32, fX9_readsPlace_L65 (nI n) (nI (3 * n)) (sp_bA ρ 0 (3 * n) - 48) kv m = some (if sp_gd ρ 0 (3 * n) = false then (0, m) else if kv = -1 then (1, m) else (2, fd_ui (fd_ui m 76 n (sp_bA ρ 0 (3 * n) - 48)) 77 n kv)) := by
    intro kv
    unfold fX9_readsPlace_L65
    rw [hin, Option.bind_some]
    cases sp_gd ρ 0 (3 * n)
    · rfl
    · rw [if_pos rfl, if_neg (show ¬ (true = false) by decide)]
      by_cases hk : kv = -1
      · rw [if_pos hk, if_pos hk]
      · rw [if_neg hk, if_neg hk, in_nI (by omega) (by omega), nI_clamp (by omega)]
        rfl
  unfold fX9_readsPlace
  rw [show (0 : Int32) = nI 0 from rfl, byteAt_eq hr hv (by omega) (by omega), Option.bind_some, fd_lt, nI_1, byteAt_eq hr hv (by omega) (by omega), Option.bind_some]
  rw [show nI 0 = (0 : Int32) from rfl, fin, fin, fin, fin, fin]
  rw [show (111 : Int32) = nI 111 from rfl, show (104 : Int32) = nI 104 from rfl, show (119 : Int32) = nI 119 from rfl, show (115 : Int32) = nI 115 from rfl]
  by_cases h0 : sp_gd ρ 0 (3 * n) = false
  · rw [if_pos h0, if_pos h0, if_pos h0, if_pos h0, if_pos h0, if_pos h0]
    repeat' split
    all_goals rfl
  · rw [if_neg h0, if_neg h0, if_neg h0, if_neg h0, if_neg h0, if_neg h0]
    have h0' : sp_gd ρ 0 (3 * n) = true := by cases hq : sp_gd ρ 0 (3 * n) <;> simp_all
    rw [hg0] at h0'
    simp only [Bool.and_eq_true, decide_eq_true_eq] at h0'
    have hd := dig_iff.mp h0'.2
    have eh : sp_bA ρ 0 (3 * n) - 48 = nI (sp_ht ρ n) := by
      unfold sp_bA sp_ht
      rw [if_pos h0'.1, show (48 : Int32) = nI 48 from rfl, pk_sub hd.1]
    rw [eh, hg1]
    unfold sp_bA sp_kd
    by_cases h : 3 * n + 1 < sp_tl ρ 0
    · have hb := ((hv 0 (by omega)).2.2 _ h).2
      rw [if_pos h, decide_eq_true h, Bool.true_and]
      generalize sp_by ρ 0 (3 * n + 1) = b at hb ⊢
      by_cases c1 : b = 111
      · subst c1; rfl
      · rw [if_neg (nI_ne c1 (by omega) (by omega))]
        by_cases c2 : b = 104
        · subst c2; rfl
        · rw [if_neg (nI_ne c2 (by omega) (by omega))]
          by_cases c3 : b = 119
          · subst c3; rfl
          · rw [if_neg (nI_ne c3 (by omega) (by omega))]
            by_cases c4 : b = 115
            · subst c4; rfl
            · rw [if_neg (nI_ne c4 (by omega) (by omega)), if_pos rfl, decide_eq_false (by omega), if_pos rfl]
    · rw [if_neg h, decide_eq_false h, Bool.false_and, if_pos rfl]
      rfl
theorem raw_ui2 {m ρ : fd_H} {k j : Nat} {v : Int32} (h : sp_raw m = ρ) (hc : sp_rc k j = false) : sp_raw (fd_ui m k j v) = ρ := (raw_ui hc).trans h
theorem fit_ge {ρ : fd_H} {t i : Nat} (h : sp_gd ρ t i = true) : i < sp_tl ρ t ∧ sp_fit ρ t i = true := by
  unfold sp_gd at h
  simpa only [Bool.and_eq_true, decide_eq_true_eq] using h
theorem bool_t {b : Bool} (h : ¬ b = false) : b = true := by cases b <;> simp_all
set_option maxHeartbeats 1000000 in
theorem parts0_loop {ρ : fd_H} (hv : sp_V1 ρ) (m0 : fd_H) : ∀ (d n f : Nat) (m : fd_H), n + d = 9 → d < f → (n = 0 → 0 < sp_tl ρ 0) → sp_raw m = ρ → m.1 73 2 = 0 → 3 * n ≤ sp_tl ρ 0 → (∀ i, i < 3 * n → sp_fit ρ 0 i = true) → (∀ p, p < n → m.1 76 p = nI (sp_ht ρ p) ∧ m.1 77 p = nI (sp_kd ρ p)) → (∀ x y, ¬ (x = 73 ∧ y = 2) → x ≠ 76 → x ≠ 77 → m.1 x y = m0.1 x y) → ∃ m', fX9_readsParts_L62 0 f 2 8 (nI n) (nI (3 * n)) m = some (sp_fault ρ 0, m') ∧ sp_raw m' = ρ ∧ mp_P m' ρ ∧ ∀ x y, ¬ (x = 73 ∧ y = 2) → x ≠ 76 → x ≠ 77 → m'.1 x y = m0.1 x y := by
  have v2 : sp_tl ρ 0 ≤ 23 := (hv 0 (by omega)).2.1
  have v1 := (hv 0 (by omega)).1
  intro d
  induction d with
  | zero => intro n f m hd hf h0 hr hp hl; omega
  | succ d ih =>
    intro n f m hd hf h0 hr hp hl hall hm hfr
    obtain ⟨f, rfl⟩ : ∃ k, f = k + 1 := ⟨f - 1, by omega⟩
    have hn8 : n < 8 := by omega
    have go : fX9_readsParts_L62 0 (f + 1) 2 8 (nI n) (nI (3 * n)) m = fX9_readsParts_L78 0 (fX9_readsParts_L62 0 f) 2 8 (nI n) (nI (3 * n)) m := by
      rw [fX9_readsParts_L62]; dsimp only
      rw [show fd_in 0 3 = true from rfl, fd_g, if_pos rfl, show (0 : Int32).toNatClampNeg = 0 from rfl, raw_get hr 74 0 rfl, v1]
      by_cases c : 3 * n < sp_tl ρ 0
      · rw [if_pos (nI_lt c (by omega))]
      · rw [if_neg (nI_nlt (by omega) (by omega)), if_neg (nI_nle (by
          rcases Nat.eq_zero_or_pos n with q | q
          · have := h0 q; omega
          · omega) (by omega))]
    rw [go]
    unfold fX9_readsParts_L78
    rw [show (8 : Int32) = nI 8 from rfl, if_neg (nI_ne (by omega) (by omega) (by omega)), if_pos rfl, readsPlace_eq hr hv hn8, Option.bind_some]
    unfold fX9_readsParts_L111
    have bad0 : ∀ k, k < 2 → 3 * n + k ≤ sp_tl ρ 0 → (∀ i, i < 3 * n + k → sp_fit ρ 0 i = true) → sp_gd ρ 0 (3 * n + k) = false → sp_well ρ 0 = false ∧ sp_fault ρ 0 = nI (3 * n + k) := by
      intro k hk h1 h2 h3
      refine fault_at h1 h2 h3 (fun e => ?_)
      unfold sp_end
      have hz : ¬ 3 * n + k = 0 := by
        intro q
        have := h0 (by omega)
        omega
      rw [decide_eq_false hz, if_pos rfl, decide_eq_false (by omega : ¬ (3 * n + k) % 3 = 2)]
      rfl
    by_cases g0 : sp_gd ρ 0 (3 * n) = false
    · obtain ⟨hw, hfa⟩ := bad0 0 (by omega) hl hall g0
      rw [if_pos g0]; dsimp only; rw [if_neg (by decide)]
      refine ⟨m, ?_, hr, ⟨?_, ?_⟩, hfr⟩
      · rw [hfa]; show some (nI (3 * n) + nI 0, m) = _; rw [nI_add]
      · unfold sp_P; rw [hw, hp]; rfl
      · intro p hpp; unfold sp_P at hpp; rw [hw] at hpp; exact absurd hpp (Nat.not_lt_zero p)
    · rw [if_neg g0]
      obtain ⟨l0, f0⟩ := fit_ge (bool_t g0)
      have all1 : ∀ i, i < 3 * n + 1 → sp_fit ρ 0 i = true := by
        intro i hi
        rcases Nat.lt_or_ge i (3 * n) with q | q
        · exact hall i q
        · have : i = 3 * n := by omega
          rw [this]; exact f0
      by_cases g1 : sp_gd ρ 0 (3 * n + 1) = false
      · obtain ⟨hw, hfa⟩ := bad0 1 (by omega) (by omega) all1 g1
        rw [if_pos g1]; dsimp only; rw [if_neg (by decide)]
        refine ⟨m, ?_, hr, ⟨?_, ?_⟩, hfr⟩
        · rw [hfa]; show some (nI (3 * n) + nI 1, m) = _; rw [nI_add]
        · unfold sp_P; rw [hw, hp]; rfl
        · intro p hpp; unfold sp_P at hpp; rw [hw] at hpp; exact absurd hpp (Nat.not_lt_zero p)
      · rw [if_neg g1]
        obtain ⟨l1, f1⟩ := fit_ge (bool_t g1)
        have all2 : ∀ i, i < 3 * n + 2 → sp_fit ρ 0 i = true := by
          intro i hi
          rcases Nat.lt_or_ge i (3 * n + 1) with q | q
          · exact all1 i q
          · have : i = 3 * n + 1 := by omega
            rw [this]; exact f1
        generalize hm2 : fd_ui (fd_ui m 76 n (nI (sp_ht ρ n))) 77 n (nI (sp_kd ρ n)) = m2
        have hr2 : sp_raw m2 = ρ := by rw [← hm2]; exact raw_ui2 (raw_ui2 hr rfl) rfl
        have hp2 : m2.1 73 2 = 0 := by rw [← hm2, ui_g (by omega), ui_g (by omega), hp]
        have hfr2 : ∀ x y, ¬ (x = 73 ∧ y = 2) → x ≠ 76 → x ≠ 77 → m2.1 x y = m0.1 x y := by
          intro x y a1 a2 a3
          rw [← hm2, ui_g (by omega), ui_g (by omega), hfr x y a1 a2 a3]
        have hm3 : ∀ p, p < n + 1 → m2.1 76 p = nI (sp_ht ρ p) ∧ m2.1 77 p = nI (sp_kd ρ p) := by
          intro p hpp
          rw [← hm2]
          rcases Nat.lt_or_ge p n with q | q
          · rw [ui_g (by omega), ui_g (by omega), ui_g (a := 77) (by omega), ui_g (a := 77) (by omega)]; exact hm p q
          · have : p = n := by omega
            subst this
            exact ⟨by rw [ui_g (by omega), ui_s], ui_s⟩
        dsimp only
        rw [if_pos (by decide), fd_lt, show fd_in 0 3 = true from rfl, fd_g, if_pos rfl, show (0 : Int32).toNatClampNeg = 0 from rfl, raw_get hr2 74 0 rfl, v1, show nI (3 * n) + 2 = nI (3 * n + 2) from nI_add _ 2]
        by_cases ce : 3 * n + 2 = sp_tl ρ 0
        · obtain ⟨hw, hfa⟩ := well_at (ρ := ρ) (t := 0) (by rw [← ce]; exact all2) (by
            unfold sp_end
            rw [if_pos rfl, decide_eq_true (by omega : sp_tl ρ 0 % 3 = 2), Bool.or_true])
          have hP : sp_P ρ = n + 1 := by unfold sp_P; rw [if_pos hw]; omega
          rw [if_pos (by rw [ce]), if_pos rfl]
          unfold fX9_readsParts_L159 fX9_readsParts_L177
          rw [fd_lt, if_neg (by decide), fd_lt, hfa, nI_1]
          refine ⟨_, rfl, raw_ui2 (raw_ui2 hr2 rfl) rfl, ⟨?_, ?_⟩, ?_⟩
          · rw [ui_g (by omega), ui_s, hP]
          · intro p hpp
            rw [hP] at hpp
            rw [ui_g (by omega), ui_g (by omega), ui_g (a := 77) (by omega), ui_g (a := 77) (by omega)]
            exact hm3 p hpp
          · intro x y a1 a2 a3
            by_cases c7 : x = 73 ∧ y = 7
            · obtain ⟨rfl, rfl⟩ := c7
              rw [ui_s, ui_g (by omega), hfr2 _ _ (by omega) (by omega) (by omega)]
            · rw [ui_g c7, ui_g a1, hfr2 x y a1 a2 a3]
        · rw [if_neg (nI_ne ce (by omega) (by omega)), show (0 : Int32) = nI 0 from rfl, byteAt_eq hr2 hv (by omega) (by omega), Option.bind_some]
          have l2 : 3 * n + 2 < sp_tl ρ 0 := by omega
          have hb := ((hv 0 (by omega)).2.2 _ l2).2
          have eg : sp_gd ρ 0 (3 * n + 2) = decide (sp_by ρ 0 (3 * n + 2) = 59) := by
            unfold sp_gd sp_fit sp_fitP
            rw [decide_eq_true l2, Bool.true_and, if_pos rfl, show (3 * n + 2) % 3 = 2 by omega, if_neg (by decide), if_neg (by decide)]
          unfold sp_bA
          rw [if_pos l2, show (59 : Int32) = nI 59 from rfl]
          by_cases c59 : sp_by ρ 0 (3 * n + 2) = 59
          · rw [if_pos (by rw [c59]), nI_1, nI_1]
            rw [decide_eq_true c59] at eg
            exact ih (n + 1) f m2 (by omega) (by omega) (fun q => by omega) hr2 hp2 (by omega) (fun i hi => by
              rcases Nat.lt_or_ge i (3 * n + 2) with q | q
              · exact all2 i q
              · have : i = 3 * n + 2 := by omega
                rw [this]; exact (fit_ge eg).2) hm3 hfr2
          · rw [if_neg (nI_ne c59 (by omega) (by omega))]
            rw [decide_eq_false c59] at eg
            obtain ⟨hw, hfa⟩ := fault_at (Nat.le_of_lt l2) all2 eg (fun e => by omega)
            refine ⟨m2, by rw [hfa], hr2, ⟨?_, ?_⟩, hfr2⟩
            · unfold sp_P; rw [hw, hp2]; rfl
            · intro p hpp; unfold sp_P at hpp; rw [hw] at hpp; exact absurd hpp (Nat.not_lt_zero p)
theorem empty_well {ρ : fd_H} {t : Nat} (h : sp_tl ρ t = 0) : sp_well ρ t = true ∧ sp_fault ρ t = -1 := well_at (by rw [h]; intro i hi; exact absurd hi (Nat.not_lt_zero i)) (by unfold sp_end; rw [h]; rfl)
theorem parts0 {m ρ : fd_H} (hr : sp_raw m = ρ) (hv : sp_V1 ρ) : ∃ m', fX9_readsParts 0 m = some (sp_fault ρ 0, m') ∧ sp_raw m' = ρ ∧ mp_P m' ρ ∧ ∀ x y, ¬ (x = 73 ∧ y = 2) → x ≠ 76 → x ≠ 77 → m'.1 x y = m.1 x y := by
  have v1 := (hv 0 (by omega)).1
  have v2 : sp_tl ρ 0 ≤ 23 := (hv 0 (by omega)).2.1
  have e : fX9_readsParts 0 m = fX9_readsParts_L62 0 fd_fu 2 8 0 0 (fd_ui (fd_ui m 73 2 0) 73 7 ((fd_ui m 73 2 0).1 73 7)) := rfl
  rw [e]
  generalize hm1 : fd_ui (fd_ui m 73 2 0) 73 7 ((fd_ui m 73 2 0).1 73 7) = m1
  have hr1 : sp_raw m1 = ρ := by rw [← hm1]; exact raw_ui2 (raw_ui2 hr rfl) rfl
  have hp1 : m1.1 73 2 = 0 := by rw [← hm1, ui_g (by omega), ui_s]
  have hf1 : ∀ x y, ¬ (x = 73 ∧ y = 2) → x ≠ 76 → x ≠ 77 → m1.1 x y = m.1 x y := by
    intro x y a1 _ _
    rw [← hm1]
    by_cases c7 : x = 73 ∧ y = 7
    · obtain ⟨rfl, rfl⟩ := c7
      rw [ui_s, ui_g (by omega)]
    · rw [ui_g c7, ui_g a1]
  by_cases h0 : sp_tl ρ 0 = 0
  · obtain ⟨hw, hfa⟩ := empty_well h0
    refine ⟨m1, ?_, hr1, ⟨?_, ?_⟩, hf1⟩
    · rw [show fd_fu = 199 + 1 from rfl, fX9_readsParts_L62]; dsimp only
      rw [show fd_in 0 3 = true from rfl, fd_g, if_pos rfl, show (0 : Int32).toNatClampNeg = 0 from rfl, raw_get hr1 74 0 rfl, v1, h0, if_neg (by decide), if_pos (by decide), hfa]
    · unfold sp_P; rw [if_pos hw, h0, hp1]; rfl
    · intro p hpp; unfold sp_P at hpp; rw [if_pos hw, h0] at hpp; exact absurd hpp (Nat.not_lt_zero p)
  · exact parts0_loop hv m 9 0 fd_fu m1 rfl (by have := fu_ge; omega) (fun _ => by omega) hr1 hp1 (Nat.zero_le _) (fun i hi => absurd hi (Nat.not_lt_zero i)) (fun p hp => absurd hp (Nat.not_lt_zero p)) hf1
theorem nights_eq {m ρ : fd_H} (hr : sp_raw m = ρ) (hv : sp_V1 ρ) : ∃ m', fX9_readsNights m = some (sp_fault ρ 1, m') ∧ sp_raw m' = ρ ∧ mp_N m' ρ ∧ ∀ x y, ¬ (x = 73 ∧ y = 5) → x ≠ 78 → m'.1 x y = m.1 x y := by
  have v1 := (hv 1 (by omega)).1
  have v2 : sp_tl ρ 1 ≤ 40 := (hv 1 (by omega)).2.1
  unfold fX9_readsNights
  rw [fd_lt]
  have hb := fs_le (fun i => !sp_fit ρ 1 i) (sp_tl ρ 1)
  have key : ∀ (d i f : Nat) (g : fd_H), i + d = sp_tl ρ 1 → d < f → (∀ j, j < i → sp_fit ρ 1 j = true) → sp_raw g = ρ → g.1 73 5 = 0 → (∀ n, n < i → g.1 78 n = nI (sp_wm ρ n)) → (∀ x y, ¬ (x = 73 ∧ y = 5) → x ≠ 78 → g.1 x y = m.1 x y) → ∃ m', fX9_readsNights_L7 f (nI i) g = some (sp_fault ρ 1, m') ∧ sp_raw m' = ρ ∧ mp_N m' ρ ∧ ∀ x y, ¬ (x = 73 ∧ y = 5) → x ≠ 78 → m'.1 x y = m.1 x y := by
    intro d
    induction d with
    | zero =>
      intro i f g hi hf hall hr hz hn hfr
      obtain ⟨f, rfl⟩ : ∃ k, f = k + 1 := ⟨f - 1, by omega⟩
      obtain ⟨hw, hfa⟩ := well_at (ρ := ρ) (t := 1) (fun j hj => hall j (by omega)) (by unfold sp_end; rw [decide_eq_true rfl, Bool.or_true]; rfl)
      have hN : sp_N ρ = sp_tl ρ 1 := by unfold sp_N; rw [if_pos hw]
      refine ⟨fd_ui g 73 5 (nI (sp_tl ρ 1)), ?_, raw_ui2 hr rfl, ⟨by rw [ui_s, hN], ?_⟩, fun x y a1 a2 => by rw [ui_g a1, hfr x y a1 a2]⟩
      · rw [fX9_readsNights_L7]; dsimp only
        rw [show fd_in 1 3 = true from rfl, fd_g, if_pos rfl, show (1 : Int32).toNatClampNeg = 1 from rfl, raw_get hr 74 1 rfl, v1, if_pos (nI_le (by omega) (by omega)), fd_g, if_pos rfl, fd_lt, hfa]
      · intro n hn2; rw [ui_g (by omega)]; exact hn n (by omega)
    | succ d ih =>
      intro i f g hi hf hall hr hz hn hfr
      obtain ⟨f, rfl⟩ : ∃ k, f = k + 1 := ⟨f - 1, by omega⟩
      have li : i < sp_tl ρ 1 := by omega
      have hin : fX9_in (sp_bA ρ 1 i) 97 122 = some (sp_fit ρ 1 i) := by
        rw [show (97 : Int32) = nI 97 from rfl, show (122 : Int32) = nI 122 from rfl, in_bA hv (by omega) (by omega) (by omega), decide_eq_true li, Bool.true_and]
        rfl
      rw [fX9_readsNights_L7]; dsimp only
      rw [show fd_in 1 3 = true from rfl, fd_g, if_pos rfl, show (1 : Int32).toNatClampNeg = 1 from rfl, raw_get hr 74 1 rfl, v1, if_neg (nI_ge li (by omega)), show (1 : Int32) = nI 1 from rfl, byteAt_eq hr hv (by omega) (by omega), Option.bind_some, hin, Option.bind_some]
      cases hq : sp_fit ρ 1 i
      · obtain ⟨hw, hfa⟩ := fault_at (Nat.le_of_lt li) hall (by unfold sp_gd; rw [hq, Bool.and_false]) (fun e => by omega)
        rw [if_neg (by decide), hfa]
        refine ⟨g, rfl, hr, ⟨?_, ?_⟩, hfr⟩
        · unfold sp_N; rw [hw, hz]; rfl
        · intro n hn2; unfold sp_N at hn2; rw [hw] at hn2; exact absurd hn2 (Nat.not_lt_zero n)
      · have hq2 := hq
        unfold sp_fit at hq2
        rw [if_neg (by decide), if_pos rfl] at hq2
        simp only [Bool.and_eq_true, decide_eq_true_eq] at hq2
        have ew : sp_bA ρ 1 i - 97 = nI (sp_wm ρ i) := by
          unfold sp_bA sp_wm
          rw [if_pos li, show (97 : Int32) = nI 97 from rfl, pk_sub hq2.1]
        rw [if_pos rfl, in_nI (by omega) (by omega), fd_g, if_pos rfl, nI_clamp (by omega), ew, fd_lt, nI_add]
        refine ih (i + 1) f _ (by omega) (by omega) (fun j hj => ?_) (raw_ui2 hr rfl) (by rw [ui_g (by omega), hz]) (fun n hn2 => ?_) (fun x y a1 a2 => by rw [ui_g (by omega), hfr x y a1 a2])
        · rcases Nat.lt_or_ge j i with q | q
          · exact hall j q
          · have : j = i := by omega
            rw [this]; exact hq
        · rcases Nat.lt_or_ge n i with q | q
          · rw [ui_g (by omega)]; exact hn n q
          · have : n = i := by omega
            subst this; exact ui_s
  exact key (sp_tl ρ 1) 0 fd_fu _ (by omega) (by have := fu_ge; omega) (fun j hj => absurd hj (Nat.not_lt_zero j)) (raw_ui2 hr rfl) ui_s (fun n hn => absurd hn (Nat.not_lt_zero n)) (fun x y a1 _ => ui_g a1)
