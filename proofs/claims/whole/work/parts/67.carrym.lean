/-! ===== ice to be carried, in the model: one try ===== -/
def sp_O (o1 o2 o3 i : Nat) : Prop := i = o1 ∨ i = o2 ∨ i = o3
def sp_fo3 (ρ : fd_H) (n o1 o2 o3 p : Nat) : Nat := if p = o1 ∨ p = o2 ∨ p = o3 then min (sp_f0 ρ p) n else sp_f0 ρ p
def sp_cv (ρ : fd_H) (a n o1 o2 o3 : Nat) : Bool := decide (sp_ow ρ (sp_fo3 ρ n o1 o2 o3) 0 a n = 0)
theorem sum0_iff {f : Nat → Nat} : ∀ {n : Nat}, sp_sum f n = 0 ↔ ∀ j, j < n → f j = 0
  | 0 => ⟨fun _ j hj => absurd hj (Nat.not_lt_zero j), fun _ => rfl⟩
  | n + 1 => by
    show sp_sum f n + f n = 0 ↔ _
    constructor
    · intro h j hj
      have h1 := (sum0_iff (f := f) (n := n)).mp (by omega)
      rcases Nat.lt_or_ge j n with c | c
      · exact h1 j c
      · have : j = n := by omega
        subst this; omega
    · intro h
      have h1 := (sum0_iff (f := f) (n := n)).mpr (fun j hj => h j (by omega))
      have h2 := h n (by omega)
      omega
theorem ow_small {ρ : fd_H} {fi : Nat → Nat} {j a n : Nat} (hv : sp_V1 ρ) : sp_ow ρ fi j a n < 2000 := by
  have hDb := D_le hv
  have h := sum_le (f := fun d => if sp_f ρ d j = a ∧ sp_st ρ fi d (sp_f ρ d 3) n = true then sp_f ρ d 2 else 0) (c := 99) (n := sp_D ρ) (fun d hd => by
    have := (f2_rng hd).2
    show (if sp_f ρ d j = a ∧ sp_st ρ fi d (sp_f ρ d 3) n = true then sp_f ρ d 2 else 0) ≤ 99
    split <;> omega)
  unfold sp_ow
  omega
theorem ow0_iff {ρ : fd_H} {fi : Nat → Nat} {j a n : Nat} : sp_ow ρ fi j a n = 0 ↔ ∀ d, d < sp_D ρ → sp_f ρ d j = a → sp_st ρ fi d (sp_f ρ d 3) n = false := by
  unfold sp_ow
  rw [sum0_iff]
  constructor
  · intro h d hd h1
    have h2 := h d hd
    have h3 := (f2_rng hd).1
    cases z : sp_st ρ fi d (sp_f ρ d 3) n
    · rfl
    · rw [if_pos ⟨h1, z⟩] at h2; omega
  · intro h d hd
    show (if sp_f ρ d j = a ∧ sp_st ρ fi d (sp_f ρ d 3) n = true then sp_f ρ d 2 else 0) = 0
    rw [if_neg]
    rintro ⟨h1, h2⟩
    rw [h d hd h1] at h2; cases h2
theorem st_iff {ρ : fd_H} {fi : Nat → Nat} {d p n : Nat} : sp_st ρ fi d p n = true ↔ p < sp_P ρ ∧ sp_f ρ d 4 ≤ n ∧ ¬ fi p ≤ n := by
  unfold sp_st
  simp only [Bool.and_eq_true, decide_eq_true_eq, Bool.not_eq_true', decide_eq_false_iff_not]
theorem cv_iff {ρ : fd_H} {a n o1 o2 o3 : Nat} : sp_cv ρ a n o1 o2 o3 = true ↔ ∀ i, sp_cs ρ a n i = true → i = o1 ∨ i = o2 ∨ i = o3 := by
  unfold sp_cv
  rw [decide_eq_true_eq, ow0_iff]
  constructor
  · intro h i hi
    obtain ⟨d, h1, h2, h3, h4⟩ := cs_iff.mp hi
    apply Classical.byContradiction
    intro c
    have h5 := h d h1 h2
    rw [h4] at h3 h5
    obtain ⟨k1, k2, k3⟩ := st_iff.mp h3
    have k4 : sp_st ρ (sp_fo3 ρ n o1 o2 o3) d i n = true := st_iff.mpr ⟨k1, k2, by unfold sp_fo3; rw [if_neg c]; exact k3⟩
    rw [k4] at h5; cases h5
  · intro h d hd h1
    cases z : sp_st ρ (sp_fo3 ρ n o1 o2 o3) d (sp_f ρ d 3) n
    · rfl
    · obtain ⟨k1, k2, k3⟩ := st_iff.mp z
      by_cases c : sp_f ρ d 3 = o1 ∨ sp_f ρ d 3 = o2 ∨ sp_f ρ d 3 = o3
      · exfalso
        apply k3
        unfold sp_fo3
        rw [if_pos c]; omega
      · exfalso
        apply c
        apply h
        refine cs_iff.mpr ⟨d, hd, h1, st_iff.mpr ⟨k1, k2, ?_⟩, rfl⟩
        unfold sp_fo3 at k3
        rw [if_neg c] at k3
        exact k3
theorem fo3_in {ρ : fd_H} {n p : Nat} (hn : n < 40) {g : fd_H} (hg : g.1 88 p = sp_fI (sp_f0 ρ p)) : (if g.1 88 p = -1 then nI n else if g.1 88 p ≤ nI n then g.1 88 p else nI n) = sp_fI (min (sp_f0 ρ p) n) := by
  rw [hg]
  unfold sp_fI
  rw [if_pos (by omega : min (sp_f0 ρ p) n < 40)]
  by_cases c : sp_f0 ρ p < 40
  · rw [if_pos c, if_neg (m1_ne (by omega))]
    by_cases c2 : sp_f0 ρ p ≤ n
    · rw [if_pos (nI_le c2 (by omega)), Nat.min_eq_left c2]
    · rw [if_neg (nI_ge (by omega) (by omega)), Nat.min_eq_right (by omega)]
  · rw [if_neg c, if_pos rfl, Nat.min_eq_right (by omega)]
theorem car_step {ρ : fd_H} {n i o1 o2 o3 : Nat} {a1 : Int32} (hn : n < 40) (hi : i < sp_P ρ) (hb : sp_P ρ ≤ 8) {g : fd_H} (hP : g.1 73 2 = nI (sp_P ρ)) (hg : g.1 88 i = sp_fI (sp_f0 ρ i)) (f : Nat) : fX9_carries_L7 a1 (nI n) (sp_wI o1) (sp_wI o2) (sp_wI o3) (f + 1) (nI i) g = fX9_carries_L7 a1 (nI n) (sp_wI o1) (sp_wI o2) (sp_wI o3) f (nI (i + 1)) (fd_ui g 88 i (sp_fI (sp_fo3 ρ n o1 o2 o3 i))) := by
  have t1 : fX9_carries_L41 a1 (nI n) (sp_wI o1) (sp_wI o2) (sp_wI o3) (fX9_carries_L7 a1 (nI n) (sp_wI o1) (sp_wI o2) (sp_wI o3) f) (nI i) true g = fX9_carries_L7 a1 (nI n) (sp_wI o1) (sp_wI o2) (sp_wI o3) f (nI (i + 1)) (fd_ui g 88 i (sp_fI (min (sp_f0 ρ i) n))) := by
    rw [← fo3_in hn hg]
    unfold fX9_carries_L41 fX9_carries_L80 fX9_carries_L87
    rw [if_pos rfl, in_nI (by omega : i < 8) (by omega), fd_g, if_pos rfl, fd_g, if_pos rfl, fd_g, if_pos rfl, fd_g, if_pos rfl, fd_g, if_pos rfl, nI_clamp (by omega), fd_lt, fd_lt, nI_1]
    by_cases c1 : g.1 88 i = -1
    · rw [if_pos c1, if_pos c1]
    · rw [if_neg c1, if_neg c1]
      by_cases c2 : g.1 88 i ≤ nI n
      · rw [if_pos c2, if_pos c2]
      · rw [if_neg c2, if_neg c2]
  have t2 : fX9_carries_L41 a1 (nI n) (sp_wI o1) (sp_wI o2) (sp_wI o3) (fX9_carries_L7 a1 (nI n) (sp_wI o1) (sp_wI o2) (sp_wI o3) f) (nI i) false g = fX9_carries_L7 a1 (nI n) (sp_wI o1) (sp_wI o2) (sp_wI o3) f (nI (i + 1)) (fd_ui g 88 i (sp_fI (sp_f0 ρ i))) := by
    rw [← hg]
    unfold fX9_carries_L41 fX9_carries_L80 fX9_carries_L87
    rw [if_neg (by decide), in_nI (by omega : i < 8) (by omega), fd_g, if_pos rfl, fd_g, if_pos rfl, nI_clamp (by omega), fd_lt, nI_1]
  rw [fX9_carries_L7]; dsimp only
  rw [hP, if_neg (nI_ge hi (by omega)), t1, t2]
  unfold sp_fo3
  by_cases c1 : i = o1
  · rw [if_pos ((wI_eq (by omega)).mpr c1), if_pos (Or.inl c1)]
  · rw [if_neg (fun q => c1 ((wI_eq (by omega)).mp q))]
    by_cases c2 : i = o2
    · rw [if_pos ((wI_eq (by omega)).mpr c2), if_pos (Or.inr (Or.inl c2))]
    · rw [if_neg (fun q => c2 ((wI_eq (by omega)).mp q))]
      by_cases c3 : i = o3
      · rw [if_pos ((wI_eq (by omega)).mpr c3), if_pos (Or.inr (Or.inr c3))]
      · rw [if_neg (fun q => c3 ((wI_eq (by omega)).mp q)), if_neg (by omega)]
theorem carries_eq {m ρ : fd_H} {a n : Nat} (o1 o2 o3 : Nat) (hv : sp_V ρ) (h : mt m ρ (sp_wm ρ) (sp_cl ρ) 8) (ha : a < 6) (hn : n < 40) : ∃ m', fX9_carries (nI a) (nI n) (sp_wI o1) (sp_wI o2) (sp_wI o3) m = some (sp_cv ρ a n o1 o2 o3, m') ∧ mt m' ρ (sp_wm ρ) (sp_cl ρ) 8 ∧ m'.1 89 0 = sp_wI o1 ∧ m'.1 89 1 = sp_wI o2 ∧ m'.1 89 2 = sp_wI o3 := by
  have hb := P_le hv.1
  obtain ⟨m1, e1, k1, k2, k3⟩ := lays_eq hv.1 hv.2.1 (fun n hn => wm_le hn) h
  unfold fX9_carries
  rw [e1, Option.bind_some]
  refine lpi0 (F := fun f (g : fd_H) i => fX9_carries_L7 (nI a) (nI n) (sp_wI o1) (sp_wI o2) (sp_wI o3) f i g) (fun i g => mt g ρ (sp_wm ρ) (sp_cl ρ) 8 ∧ (∀ p, p < i → g.1 88 p = sp_fI (sp_fo3 ρ n o1 o2 o3 p)) ∧ ∀ p, i ≤ p → p < sp_P ρ → g.1 88 p = sp_fI (sp_f0 ρ p)) (sp_P ρ) (by omega) (post := fun r => ∃ m', r = some (sp_cv ρ a n o1 o2 o3, m') ∧ mt m' ρ (sp_wm ρ) (sp_cl ρ) 8 ∧ m'.1 89 0 = sp_wI o1 ∧ m'.1 89 1 = sp_wI o2 ∧ m'.1 89 2 = sp_wI o3) (a := m1) ⟨k1, fun p hp => absurd hp (Nat.not_lt_zero p), fun p _ hp => k2 p hp⟩ ?_ ?_
  · intro f g ⟨g1, g2, g3⟩
    have f1 : mt (fd_ui (fd_ui (fd_ui g 89 0 (sp_wI o1)) 89 1 (sp_wI o2)) 89 2 (sp_wI o3)) ρ (sp_wm ρ) (sp_cl ρ) 8 := g1.of (raw_ui2 (raw_ui2 (raw_ui2 g1.1 rfl) rfl) rfl) (fun x y _ c => by rw [ui_g (by omega), ui_g (by omega), ui_g (by omega)])
    have f2 : mf (fd_ui (fd_ui (fd_ui g 89 0 (sp_wI o1)) 89 1 (sp_wI o2)) 89 2 (sp_wI o3)) ρ (sp_fo3 ρ n o1 o2 o3) := fun p hp => by
      rw [ui_g (by omega), ui_g (by omega), ui_g (by omega)]; exact g2 p hp
    have sm := ow_small (ρ := ρ) (fi := sp_fo3 ρ n o1 o2 o3) (j := 0) (a := a) (n := n) hv.1
    refine ⟨fd_ui (fd_ui (fd_ui g 89 0 (sp_wI o1)) 89 1 (sp_wI o2)) 89 2 (sp_wI o3), ?_, f1, ?_, ?_, ?_⟩
    · show fX9_carries_L7 (nI a) (nI n) (sp_wI o1) (sp_wI o2) (sp_wI o3) (f + 1) (nI (sp_P ρ)) g = _
      rw [fX9_carries_L7]; dsimp only
      rw [g1.2.1.1, if_pos (nI_le (Nat.le_refl _) (by omega)), show fd_in 0 3 = true from rfl, show fd_in 1 3 = true from rfl, show fd_in 2 3 = true from rfl, show (0 : Int32).toNatClampNeg = 0 from rfl, show (1 : Int32).toNatClampNeg = 1 from rfl, show (2 : Int32).toNatClampNeg = 2 from rfl, fd_g, if_pos rfl, fd_lt, fd_g, if_pos rfl, fd_lt, fd_g, if_pos rfl, fd_lt, show (0 : Int32) = nI 0 from rfl, owes_m hv.1 f1.2.1 f1.2.2.2.1 f2 ha hn (by omega), Option.bind_some]
      unfold sp_cv
      by_cases c : sp_ow ρ (sp_fo3 ρ n o1 o2 o3) 0 a n = 0
      · rw [decide_eq_true c, if_pos (by rw [c])]
      · rw [decide_eq_false c, if_neg (nI_ne c (by omega) (by omega))]
    · rw [ui_g (by omega), ui_g (by omega), ui_s]
    · rw [ui_g (by omega), ui_s]
    · rw [ui_s]
  · intro f i g hi ⟨g1, g2, g3⟩
    refine ⟨fd_ui g 88 i (sp_fI (sp_fo3 ρ n o1 o2 o3 i)), ⟨g1.of (raw_ui2 g1.1 rfl) (fun x y c _ => ui_g (by omega)), fun p hp => ?_, fun p h1 h2 => ?_⟩, ?_⟩
    · by_cases c : p = i
      · subst c; rw [ui_s]
      · rw [ui_g (by omega)]; exact g2 p (by omega)
    · rw [ui_g (by omega)]; exact g3 p (by omega) h2
    · exact car_step hn hi hb g1.2.1.1 (g3 i (Nat.le_refl i) hi) f
