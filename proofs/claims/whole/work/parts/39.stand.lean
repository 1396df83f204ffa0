/-! ===== told weather, what stands, what is owed ===== -/
def mt0 (m ρ : fd_H) (wf : Nat → Nat) (w : Nat) : Prop := sp_raw m = ρ ∧ mp_P m ρ ∧ (m.1 73 5 = nI (sp_N ρ) ∧ ∀ n, n < sp_N ρ → m.1 78 n = nI (wf n)) ∧ mp_D m ρ ∧ m.1 73 18 = sp_wI w
theorem mt0.of {m m' ρ : fd_H} {wf : Nat → Nat} {w : Nat} (h : mt0 m ρ wf w) (hr : sp_raw m' = ρ) (hf : ∀ x y, x ≠ 87 → x ≠ 88 → x ≠ 89 → m'.1 x y = m.1 x y) : mt0 m' ρ wf w := by
  obtain ⟨_, h1, h2, h3, h5⟩ := h
  refine ⟨hr, ⟨?_, fun p hp => ⟨?_, ?_⟩⟩, ⟨?_, fun n hn => ?_⟩, ⟨?_, fun d hd => ⟨?_, ?_, ?_, ?_, ?_⟩⟩, ?_⟩ <;> rw [hf _ _ (by omega) (by omega) (by omega)]
  · exact h1.1
  · exact (h1.2 p hp).1
  · exact (h1.2 p hp).2
  · exact h2.1
  · exact h2.2 n hn
  · exact h3.1
  · exact (h3.2 d hd).1
  · exact (h3.2 d hd).2.1
  · exact (h3.2 d hd).2.2.1
  · exact (h3.2 d hd).2.2.2.1
  · exact (h3.2 d hd).2.2.2.2
  · exact h5
theorem mt.to0 {m ρ : fd_H} {wf : Nat → Nat} {cf : Nat → Bool} {w : Nat} (h : mt m ρ wf cf w) : mt0 m ρ wf w := ⟨h.1, h.2.1, h.2.2.1, h.2.2.2.1, h.2.2.2.2.2⟩
theorem mt0.to {m ρ : fd_H} {wf : Nat → Nat} {cf : Nat → Bool} {w : Nat} (h : mt0 m ρ wf w) (hc : ∀ n, n < 40 → m.1 87 n = fd_b (cf n)) : mt m ρ wf cf w := ⟨h.1, h.2.1, h.2.2.1, h.2.2.2.1, hc, h.2.2.2.2⟩
theorem asTold_eq {m ρ : fd_H} (hr : sp_raw m = ρ) (hv1 : sp_V1 ρ) (hv : sp_V2 ρ) : ∃ m', fX9_asTold m = some m' ∧ mt m' ρ (sp_wm ρ) (sp_cl ρ) 8 := by
  obtain ⟨m1, e1, hr1, p1, p2, p3⟩ := reads_eq hr hv1
  obtain ⟨hc, hc8, hmk⟩ := hv.2.2 0 (by omega)
  unfold fX9_asTold
  rw [e1, Option.bind_some, fd_lt]
  have hr2 : sp_raw (fd_ui m1 73 18 (-1)) = ρ := raw_ui2 hr1 rfl
  have h2 : mt0 (fd_ui m1 73 18 (-1)) ρ (sp_wm ρ) 8 := by
    refine ⟨hr2, ⟨?_, fun p hp => ⟨?_, ?_⟩⟩, ⟨?_, fun n hn => ?_⟩, ⟨?_, fun d hd => ⟨?_, ?_, ?_, ?_, ?_⟩⟩, ?_⟩
    · rw [ui_g (by omega)]; exact p1.1
    · rw [ui_g (by omega)]; exact (p1.2 p hp).1
    · rw [ui_g (by omega)]; exact (p1.2 p hp).2
    · rw [ui_g (by omega)]; exact p2.1
    · rw [ui_g (by omega)]; exact p2.2 n hn
    · rw [ui_g (by omega)]; exact p3.1
    · rw [ui_g (by omega)]; exact (p3.2 d hd).1
    · rw [ui_g (by omega)]; exact (p3.2 d hd).2.1
    · rw [ui_g (by omega)]; exact (p3.2 d hd).2.2.1
    · rw [ui_g (by omega)]; exact (p3.2 d hd).2.2.2.1
    · rw [ui_g (by omega)]; exact (p3.2 d hd).2.2.2.2
    · rw [ui_s]; rfl
  refine lpi0 (F := fun n h i => fX9_asTold_L11 n i h) (fun i h => mt0 h ρ (sp_wm ρ) 8 ∧ ∀ n, n < i → h.1 87 n = 0) 40 (by omega) (post := fun o => ∃ m', o = some m' ∧ mt m' ρ (sp_wm ρ) (sp_cl ρ) 8) ⟨h2, fun n hn => absurd hn (Nat.not_lt_zero n)⟩ ?_ ?_
  · intro n a ⟨ha, hz⟩
    show ∃ m', fX9_asTold_L11 (n + 1) (nI 40) a = some m' ∧ _
    rw [fX9_asTold_L11]; dsimp only
    rw [show (40 : Int32) = nI 40 from rfl, if_pos (nI_le (Nat.le_refl _) (by omega))]
    refine lpi0 (F := fun n h i => fX9_asTold_L32 n i h) (fun i h => mt0 h ρ (sp_wm ρ) 8 ∧ ∀ n, n < 40 → h.1 87 n = fd_b (sp_any (fun j => decide (sp_mn ρ 0 j = n)) i)) (sp_mc ρ 0) (by omega) (post := fun o => ∃ m', o = some m' ∧ mt m' ρ (sp_wm ρ) (sp_cl ρ) 8) ⟨ha, fun n hn => hz n hn⟩ ?_ ?_
    · intro n a ⟨ha, hz⟩
      refine ⟨a, ?_, ha.to hz⟩
      show fX9_asTold_L32 (n + 1) (nI (sp_mc ρ 0)) a = _
      rw [fX9_asTold_L32]; dsimp only
      rw [show fd_in 0 3 = true from rfl, fd_g, if_pos rfl, show (0 : Int32).toNatClampNeg = 0 from rfl, raw_get ha.1 84 0 rfl, hc, if_pos (nI_le (Nat.le_refl _) (by omega))]
    · intro n i a hi ⟨ha, hz⟩
      obtain ⟨⟨q1, q2⟩, q3, q4, -⟩ := hmk i hi
      have hra : sp_raw (fd_ui a 87 (sp_mn ρ 0 i) (fd_b true)) = ρ := raw_ui2 ha.1 rfl
      refine ⟨fd_ui a 87 (sp_mn ρ 0 i) (fd_b true), ⟨ha.of hra (fun x y b _ _ => ui_g (by omega)), fun k hk => ?_⟩, ?_⟩
      · show _ = fd_b (sp_any (fun j => decide (sp_mn ρ 0 j = k)) i || decide (sp_mn ρ 0 i = k))
        by_cases c : sp_mn ρ 0 i = k
        · rw [decide_eq_true c, Bool.or_true, ← c, ui_s]
        · rw [decide_eq_false c, Bool.or_false, ui_g (by omega), hz k hk]
      · show fX9_asTold_L32 (n + 1) (nI i) a = fX9_asTold_L32 n (nI (i + 1)) _
        have q1' : ρ.1 85 i = nI (sp_mn ρ 0 i) := by have := q1; rwa [show 8 * 0 + i = i by omega] at this
        rw [fX9_asTold_L32]; dsimp only
        rw [show fd_in 0 3 = true from rfl, fd_g, if_pos rfl, show (0 : Int32).toNatClampNeg = 0 from rfl, raw_get ha.1 84 0 rfl, hc, if_neg (nI_ge hi (by omega)), in_nI (by omega) (by omega), fd_g, if_pos rfl, nI_clamp (by omega), raw_get ha.1 85 i rfl, q1', in_nI q2 (by omega), fd_g, if_pos rfl, fd_lt, nI_clamp (by omega), nI_1]
  · intro n i a hi ⟨ha, hz⟩
    have hra : sp_raw (fd_ui a 87 i (fd_b false)) = ρ := raw_ui2 ha.1 rfl
    refine ⟨fd_ui a 87 i (fd_b false), ⟨ha.of hra (fun x y b _ _ => ui_g (by omega)), fun k hk => ?_⟩, ?_⟩
    · by_cases c : k = i
      · rw [c, ui_s]; rfl
      · rw [ui_g (by omega), hz k (by omega)]
    · show fX9_asTold_L11 (n + 1) (nI i) a = fX9_asTold_L11 n (nI (i + 1)) _
      rw [fX9_asTold_L11]; dsimp only
      rw [show (40 : Int32) = nI 40 from rfl, if_neg (nI_ge hi (by omega)), in_nI hi (by omega), fd_g, if_pos rfl, fd_lt, nI_clamp (by omega), nI_1]
theorem laysTold_eq {m ρ : fd_H} (hr : sp_raw m = ρ) (hv1 : sp_V1 ρ) (hv : sp_V2 ρ) : ∃ m', fX9_laysTold m = some m' ∧ mt m' ρ (sp_wm ρ) (sp_cl ρ) 8 ∧ mf m' ρ (sp_f0 ρ) := by
  obtain ⟨m1, e1, h1⟩ := asTold_eq hr hv1 hv
  obtain ⟨m2, e2, h2, h3, -⟩ := lays_eq hv1 hv (fun n hn => wm_le hn) h1
  refine ⟨m2, ?_, h2, h3⟩
  unfold fX9_laysTold
  rw [e1, Option.bind_some, e2]
  rfl
def sp_st (ρ : fd_H) (fi : Nat → Nat) (d p n : Nat) : Bool := decide (p < sp_P ρ) && (decide (sp_f ρ d 4 ≤ n) && !decide (fi p ≤ n))
def sp_sf (ρ : fd_H) (fi : Nat → Nat) (d p : Nat) : Nat := if p < sp_P ρ then fi p - sp_f ρ d 4 else 0
def sp_ow (ρ : fd_H) (fi : Nat → Nat) (j a n : Nat) : Nat := sp_sum (fun d => if sp_f ρ d j = a ∧ sp_st ρ fi d (sp_f ρ d 3) n = true then sp_f ρ d 2 else 0) (sp_D ρ)
theorem had_m {m ρ : fd_H} {fi : Nat → Nat} {p n : Nat} (hb : sp_P ρ ≤ 8) (hP : mp_P m ρ) (hf : mf m ρ fi) (hp : p < 8) (hn : n < 40) : fX9_hasHad (nI p) (nI n) m = some (decide (p < sp_P ρ) && decide (fi p ≤ n)) := by
  unfold fX9_hasHad
  rw [hP.1]
  by_cases c : p < sp_P ρ
  · rw [if_neg (nI_ge c (by omega)), in_nI hp (by omega), fd_g, if_pos rfl, fd_g, if_pos rfl, nI_clamp (by omega), hf p c, decide_eq_true c, Bool.true_and]
    unfold sp_fI
    by_cases c2 : fi p < 40
    · rw [if_pos c2, if_neg (m1_ne (by omega))]
      by_cases c3 : fi p ≤ n
      · rw [if_neg (nI_nlt c3 (by omega)), decide_eq_true c3]
      · rw [if_pos (nI_lt (by omega) (by omega)), decide_eq_false c3]
    · rw [if_neg c2, if_pos rfl, decide_eq_false (by omega)]
  · rw [if_pos (nI_le (by omega) (by omega)), decide_eq_false c]; rfl
theorem stand_m {m ρ : fd_H} {fi : Nat → Nat} {d p n : Nat} (hv1 : sp_V1 ρ) (hP : mp_P m ρ) (hD : mp_D m ρ) (hf : mf m ρ fi) (hd : d < sp_D ρ) (hp : p < 8) (hn : n < 40) : fX9_isStanding (nI d) (nI p) (nI n) m = some (sp_st ρ fi d p n) := by
  have hb := P_le hv1
  have hDb := D_le hv1
  have h4 := f4_le hd
  unfold fX9_isStanding sp_st
  rw [had_m hb hP hf hp hn, hP.1, Option.bind_some]
  by_cases c : p < sp_P ρ
  · rw [if_neg (nI_ge c (by omega)), in_nI (by omega) (by omega), fd_g, if_pos rfl, nI_clamp (by omega), (hD.2 d hd).2.2.2.2, decide_eq_true c, Bool.true_and, Bool.true_and]
    by_cases c2 : sp_f ρ d 4 ≤ n
    · rw [if_neg (nI_nlt c2 (by omega)), decide_eq_true c2]
      cases decide (fi p ≤ n) <;> rfl
    · rw [if_pos (nI_lt (by omega) (by omega)), decide_eq_false c2]; rfl
  · rw [if_pos (nI_le (by omega) (by omega)), decide_eq_false c]; rfl
theorem sfor_m {m ρ : fd_H} {fi : Nat → Nat} {d p : Nat} (hv1 : sp_V1 ρ) (hP : mp_P m ρ) (hD : mp_D m ρ) (hf : mf m ρ fi) (hfi : ∀ p, p < sp_P ρ → fi p ≤ 40) (hd : d < sp_D ρ) (hp : p < 8) : fX9_standsFor (nI d) (nI p) m = some (nI (sp_sf ρ fi d p)) := by
  have s0 : nI (if p < sp_P ρ then min 0 (fi p) - sp_f ρ d 4 else 0) = 0 := by
    rw [show min 0 (fi p) - sp_f ρ d 4 = 0 by omega, ite_self]; rfl
  have key : fX9_standsFor_L5 (nI d) (nI p) m fd_fu (nI (if p < sp_P ρ then min 0 (fi p) - sp_f ρ d 4 else 0)) (nI 0) = some (nI (sp_sf ρ fi d p)) → fX9_standsFor (nI d) (nI p) m = some (nI (sp_sf ρ fi d p)) := by
    intro k
    rw [s0] at k
    exact k
  apply key
  refine lp0 (F := fun f v i => fX9_standsFor_L5 (nI d) (nI p) m f v i) (fun i => nI (if p < sp_P ρ then min i (fi p) - sp_f ρ d 4 else 0)) 40 (by omega) ?_ ?_
  · intro f
    show fX9_standsFor_L5 (nI d) (nI p) m (f + 1) (nI (if p < sp_P ρ then min 40 (fi p) - sp_f ρ d 4 else 0)) (nI 40) = _
    rw [fX9_standsFor_L5]; dsimp only
    rw [show (40 : Int32) = nI 40 from rfl, if_pos (nI_le (Nat.le_refl _) (by omega))]
    unfold sp_sf
    by_cases c : p < sp_P ρ
    · have := hfi p c
      rw [if_pos c, if_pos c, Nat.min_eq_right this]
    · rw [if_neg c, if_neg c]
  · intro f i hi
    show fX9_standsFor_L5 (nI d) (nI p) m (f + 1) (nI (if p < sp_P ρ then min i (fi p) - sp_f ρ d 4 else 0)) (nI i) = fX9_standsFor_L5 (nI d) (nI p) m f (nI (if p < sp_P ρ then min (i + 1) (fi p) - sp_f ρ d 4 else 0)) (nI (i + 1))
    rw [fX9_standsFor_L5]; dsimp only
    rw [show (40 : Int32) = nI 40 from rfl, if_neg (nI_ge hi (by omega)), stand_m hv1 hP hD hf hd hp hi, Option.bind_some]
    unfold fX9_standsFor_L29 sp_st
    rw [fd_lt, fd_lt, nI_1, show fd_b true = nI 1 from rfl, show fd_b false = nI 0 from rfl, nI_add, nI_add]
    by_cases c : p < sp_P ρ
    · rw [if_pos c, if_pos c, decide_eq_true c, Bool.true_and]
      by_cases c2 : sp_f ρ d 4 ≤ i
      · by_cases c3 : fi p ≤ i
        · rw [decide_eq_true c2, decide_eq_true c3, if_neg (by decide), show min (i + 1) (fi p) - sp_f ρ d 4 = min i (fi p) - sp_f ρ d 4 + 0 by omega]
        · rw [decide_eq_true c2, decide_eq_false c3, if_pos (by decide), show min (i + 1) (fi p) - sp_f ρ d 4 = min i (fi p) - sp_f ρ d 4 + 1 by omega]
      · rw [decide_eq_false c2, Bool.false_and, if_neg (by decide), show min (i + 1) (fi p) - sp_f ρ d 4 = min i (fi p) - sp_f ρ d 4 + 0 by omega]
    · rw [if_neg c, if_neg c, decide_eq_false c, Bool.false_and, if_neg (by decide)]
theorem owes_m {m ρ : fd_H} {fi : Nat → Nat} {a n j : Nat} (hv1 : sp_V1 ρ) (hP : mp_P m ρ) (hD : mp_D m ρ) (hf : mf m ρ fi) (ha : a < 6) (hn : n < 40) (hj : j < 2) : fX9_owesNow (nI a) (nI n) (nI j) m = some (nI (sp_ow ρ fi j a n)) := by
  have hDb := D_le hv1
  refine lp0 (F := fun f v i => fX9_owesNow_L6 (nI a) (nI n) (nI j) m f v i) (fun i => nI (sp_sum (fun d => if sp_f ρ d j = a ∧ sp_st ρ fi d (sp_f ρ d 3) n = true then sp_f ρ d 2 else 0) i)) (sp_D ρ) (by omega) ?_ ?_
  · intro f
    show fX9_owesNow_L6 (nI a) (nI n) (nI j) m (f + 1) (nI (sp_sum _ (sp_D ρ))) (nI (sp_D ρ)) = _
    rw [fX9_owesNow_L6]; dsimp only
    rw [hD.1, if_pos (nI_le (Nat.le_refl _) (by omega))]
    rfl
  · intro f d hd
    obtain ⟨g0, g1, g2, g3, g4⟩ := hD.2 d hd
    have b0 := f0_le hd
    have b1 := f1_le hd
    have b3 := f3_le hd
    show fX9_owesNow_L6 (nI a) (nI n) (nI j) m (f + 1) (nI (sp_sum (fun d => if sp_f ρ d j = a ∧ sp_st ρ fi d (sp_f ρ d 3) n = true then sp_f ρ d 2 else 0) d)) (nI d) = fX9_owesNow_L6 (nI a) (nI n) (nI j) m f (nI (sp_sum (fun d => if sp_f ρ d j = a ∧ sp_st ρ fi d (sp_f ρ d 3) n = true then sp_f ρ d 2 else 0) d + if sp_f ρ d j = a ∧ sp_st ρ fi d (sp_f ρ d 3) n = true then sp_f ρ d 2 else 0)) (nI (d + 1))
    generalize sp_sum (fun d => if sp_f ρ d j = a ∧ sp_st ρ fi d (sp_f ρ d 3) n = true then sp_f ρ d 2 else 0) d = S
    rw [fX9_owesNow_L6]; dsimp only
    rw [hD.1, if_neg (nI_ge hd (by omega)), in_nI (by omega) (by omega), fd_g, if_pos rfl, fd_g, if_pos rfl, nI_clamp (by omega), g0, g1]
    have go : ∀ x, x ≤ 5 → fX9_owesNow_L36 (nI a) (nI n) (nI j) m (fX9_owesNow_L6 (nI a) (nI n) (nI j) m f) (nI S) (nI d) (nI x) = fX9_owesNow_L6 (nI a) (nI n) (nI j) m f (nI (S + if x = a ∧ sp_st ρ fi d (sp_f ρ d 3) n = true then sp_f ρ d 2 else 0)) (nI (d + 1)) := by
      intro x hx
      unfold fX9_owesNow_L36 fX9_owesNow_L45 fX9_owesNow_L81 fX9_owesNow_L82
      rw [in_nI (by omega) (by omega), fd_g, if_pos rfl, nI_clamp (by omega), g3, stand_m hv1 hP hD hf hd (by omega) hn, Option.bind_some, fd_g, if_pos rfl, g2, fd_lt, fd_lt, nI_add, nI_1, show (0 : Int32) = nI 0 from rfl, nI_add]
      by_cases c : x = a
      · rw [if_pos (by rw [c]), if_pos rfl]
        cases e : sp_st ρ fi d (sp_f ρ d 3) n
        · rw [if_neg (by decide), if_neg (fun q => Bool.noConfusion q.2)]
        · rw [if_pos rfl, if_pos ⟨c, rfl⟩]
      · rw [if_neg (nI_ne c (by omega) (by omega)), if_neg (by decide), if_neg (fun q => c q.1)]
    rcases (show j = 0 ∨ j = 1 by omega) with rfl | rfl
    · rw [if_pos (by decide)]; exact go _ b0
    · rw [if_neg (by decide)]; exact go _ b1
