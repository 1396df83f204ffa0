/-! ===== the model's weather ===== -/
theorem m_one {n : Nat} : nI (n + 1) - 1 = nI n := pk_sub (b := 1) (Nat.le_add_left 1 n)
theorem p_neg (x : Int32) : x + (-1) = x - 1 := (Int32.sub_eq_add_neg x 1).symm
def sp_q (ρ : fd_H) (k n p w j : Nat) : Bool := decide (sp_mn ρ k j = n) && decide (sp_mp ρ k j = p) && !(decide (k = 2) && decide (j = w))
def sp_told (ρ : fd_H) (k n p w : Nat) : Bool := sp_any (sp_q ρ k n p w) (sp_mc ρ k)
theorem told1 (ρ : fd_H) (n p w : Nat) : sp_told ρ 1 n p w = sp_sm ρ n p := any_cong (fun j _ => by unfold sp_q; simp)
theorem told2 (ρ : fd_H) (n p w : Nat) : sp_told ρ 2 n p w = sp_ic ρ w n p := any_cong (fun j _ => by unfold sp_q; simp)
theorem isTold_eq {m ρ : fd_H} {k n p w : Nat} (hr : sp_raw m = ρ) (hv : sp_V2 ρ) (hw : m.1 73 18 = sp_wI w) (hk : k < 3) (hn : n < 40) (hp : p < 8) : fX9_isTold (nI k) (nI n) (nI p) m = some (sp_told ρ k n p w) := by
  obtain ⟨hc, hc8, hmk⟩ := hv.2.2 k hk
  refine lp0 (F := fun f v i => fX9_isTold_L6 (nI k) (nI n) (nI p) m f v i) (fun i => sp_any (sp_q ρ k n p w) i) (sp_mc ρ k) (by omega) ?_ ?_
  · intro f
    show fX9_isTold_L6 (nI k) (nI n) (nI p) m (f + 1) (sp_any (sp_q ρ k n p w) (sp_mc ρ k)) (nI (sp_mc ρ k)) = _
    rw [fX9_isTold_L6]; dsimp only
    rw [in_nI hk (by omega), fd_g, if_pos rfl, nI_clamp (by omega), raw_get hr 84 k rfl, hc, if_pos (nI_le (Nat.le_refl _) (by omega))]
    rfl
  · intro f i hi
    obtain ⟨⟨m1, m2⟩, m3, m4, -⟩ := hmk i hi
    show fX9_isTold_L6 (nI k) (nI n) (nI p) m (f + 1) (sp_any (sp_q ρ k n p w) i) (nI i) = fX9_isTold_L6 (nI k) (nI n) (nI p) m f (sp_any (sp_q ρ k n p w) i || sp_q ρ k n p w i) (nI (i + 1))
    have e8 : (8 : Int32) * nI k + nI i = nI (8 * k + i) := by rw [show (8 : Int32) = nI 8 from rfl, pk_mul, nI_add]
    rw [fX9_isTold_L6]; dsimp only
    unfold fX9_isTold_L72 fX9_isTold_L73
    rw [in_nI hk (by omega), fd_g, if_pos rfl, nI_clamp (by omega), raw_get hr 84 k rfl, hc, if_neg (nI_ge hi (by omega)), nI_1]
    cases sp_any (sp_q ρ k n p w) i
    · rw [if_neg (by decide), e8, in_nI (by omega) (by omega), fd_g, if_pos rfl, nI_clamp (by omega), raw_get hr 85 (8 * k + i) rfl, m1, Bool.false_or]
      unfold sp_q
      by_cases c1 : sp_mn ρ k i = n
      · rw [if_pos (by rw [c1]), fd_g, if_pos rfl, raw_get hr 86 (8 * k + i) rfl, m3, decide_eq_true c1, Bool.true_and]
        by_cases c2 : sp_mp ρ k i = p
        · rw [if_pos (by rw [c2]), decide_eq_true c2, Bool.true_and, show (2 : Int32) = nI 2 from rfl]
          by_cases c3 : k = 2
          · rw [if_pos (by rw [c3]), decide_eq_true c3, Bool.true_and, hw]
            by_cases c4 : i = w
            · rw [if_pos ((wI_eq (by omega)).mpr c4), decide_eq_true c4]; rfl
            · rw [if_neg (fun q => c4 ((wI_eq (by omega)).mp q)), decide_eq_false c4]; rfl
          · rw [if_neg (nI_ne c3 (by omega) (by omega)), decide_eq_false c3]; rfl
        · rw [if_neg (nI_ne c2 (by omega) (by omega)), decide_eq_false c2]; rfl
      · rw [if_neg (nI_ne c1 (by omega) (by omega)), decide_eq_false c1]; rfl
    · rw [if_pos rfl, Bool.true_or]
/-- the model has its weather told -/
def mt (m ρ : fd_H) (wf : Nat → Nat) (cf : Nat → Bool) (w : Nat) : Prop := sp_raw m = ρ ∧ mp_P m ρ ∧ (m.1 73 5 = nI (sp_N ρ) ∧ ∀ n, n < sp_N ρ → m.1 78 n = nI (wf n)) ∧ mp_D m ρ ∧ (∀ n, n < 40 → m.1 87 n = fd_b (cf n)) ∧ m.1 73 18 = sp_wI w
theorem mt.of {m m' ρ : fd_H} {wf : Nat → Nat} {cf : Nat → Bool} {w : Nat} (h : mt m ρ wf cf w) (hr : sp_raw m' = ρ) (hf : ∀ x y, x ≠ 88 → x ≠ 89 → m'.1 x y = m.1 x y) : mt m' ρ wf cf w := by
  obtain ⟨_, h1, h2, h3, h4, h5⟩ := h
  refine ⟨hr, ⟨?_, fun p hp => ⟨?_, ?_⟩⟩, ⟨?_, fun n hn => ?_⟩, ⟨?_, fun d hd => ⟨?_, ?_, ?_, ?_, ?_⟩⟩, fun n hn => ?_, ?_⟩ <;> rw [hf _ _ (by omega) (by omega)]
  · exact h1.1
  · exact (h1.2 p hp).1
  · exact (h1.2 p hp).2
  · exact h2.1
  · exact h2.2 n hn
  · exact h3.1
  · exact (h3.2 d hd).1
  · exact (h3.2 d hd).2.1
  · exact (h3.2 d hd).2.2.1
  · exact (h3.2 d hd).2.2.2.1
  · exact (h3.2 d hd).2.2.2.2
  · exact h4 n hn
  · exact h5
theorem sp_lf_cases (k : Nat) : (k = 1 ∧ sp_lfI k = -3) ∨ (k = 2 ∧ sp_lfI k = 2) ∨ (k = 3 ∧ sp_lfI k = 4) ∨ (k ≠ 1 ∧ k ≠ 2 ∧ k ≠ 3 ∧ sp_lfI k = 0) := by
  unfold sp_lfI
  by_cases h1 : k = 1
  · left; rw [if_pos h1]; exact ⟨h1, rfl⟩
  · by_cases h2 : k = 2
    · right; left; rw [if_neg h1, if_pos h2]; exact ⟨h2, rfl⟩
    · by_cases h3 : k = 3
      · right; right; left; rw [if_neg h1, if_neg h2, if_pos h3]; exact ⟨h3, rfl⟩
      · right; right; right; rw [if_neg h1, if_neg h2, if_neg h3]; exact ⟨h1, h2, h3, rfl⟩
theorem wshift (a b c : Int32) : (a - b) + c = a + (c - b) := by
  rw [Int32.sub_eq_add_neg, Int32.sub_eq_add_neg, Int32.add_assoc, Int32.add_comm (-b) c]
theorem warmthBy_eq {m ρ : fd_H} {wf : Nat → Nat} {cf : Nat → Bool} {w n p : Nat} (hv : sp_V1 ρ) (h : mt m ρ wf cf w) (hn : n < sp_N ρ) (hp : p < sp_P ρ) : fX9_warmthBy (nI n) (nI p) m = some (nI (wf n) + (sp_lfI (sp_kd ρ p) - nI (sp_ht ρ p))) := by
  have hP := P_le hv
  have hN := N_le hv
  have k3 := kd_le (ρ := ρ) (p := p)
  obtain ⟨_, h1, h2, h3, h4, h5⟩ := h
  obtain ⟨q1, q2⟩ := h1.2 p hp
  unfold fX9_warmthBy fX9_warmthBy_L49
  rw [in_nI (by omega) (by omega), fd_g, if_pos rfl, fd_lt, in_nI (by omega) (by omega), fd_g, if_pos rfl, fd_g, if_pos rfl, nI_clamp (by omega), nI_clamp (by omega), q1, q2, h2.2 n hn, show (1 : Int32) = nI 1 from rfl, show (3 : Int32) = nI 3 from rfl, ← wshift]
  rcases sp_lf_cases (sp_kd ρ p) with ⟨e, f⟩ | ⟨e, f⟩ | ⟨e, f⟩ | ⟨e1, e2, e3, f⟩
  · rw [if_pos (by rw [e]), f]; rfl
  · rw [if_neg (nI_ne (by omega) (by omega) (by omega)), if_pos (by rw [e]; rfl), f]
  · rw [if_neg (nI_ne (by omega) (by omega) (by omega)), show (2 : Int32) = nI 2 from rfl, if_neg (nI_ne (by omega) (by omega) (by omega)), if_pos (by rw [e]), f]
  · rw [if_neg (nI_ne e1 (by omega) (by omega)), show (2 : Int32) = nI 2 from rfl, if_neg (nI_ne e2 (by omega) (by omega)), if_neg (nI_ne e3 (by omega) (by omega)), f]
theorem mcold_eq {m ρ : fd_H} {wf : Nat → Nat} {cf : Nat → Bool} {w n p : Nat} (hv1 : sp_V1 ρ) (hv : sp_V2 ρ) (h : mt m ρ wf cf w) (hn : n < sp_N ρ) (hp : p < sp_P ρ) (hw : wf n ≤ 25) : fX9_isCold (nI n) (nI p) m = some (sp_cold ρ n p (wf n) && !sp_sm ρ n p) := by
  have hP := P_le hv1
  have hN := N_le hv1
  have k3 := kd_le (ρ := ρ) (p := p)
  have h9 := ht_le hp
  have hz := hv.2.1
  have hwm := warmthBy_eq hv1 h hn hp
  obtain ⟨hr, h1, h2, h3, h4, h5⟩ := h
  obtain ⟨q1, q2⟩ := h1.2 p hp
  have fin : ∀ b : Bool, fX9_isCold_L21 (nI n) (nI p) m b = some ((decide (sp_wt ρ p (wf n) < sp_zr ρ) && !b) && !sp_sm ρ n p) := by
    intro b
    unfold fX9_isCold_L21
    rw [hwm, Option.bind_some, raw_get hr 73 13 rfl, hv.1, show (1 : Int32) = nI 1 from rfl, isTold_eq hr hv h5 (by omega) (by omega) (by omega), told1, Option.bind_some]
    have e : (nI (sp_zr ρ) ≤ nI (wf n) + (sp_lfI (sp_kd ρ p) - nI (sp_ht ρ p))) ↔ ¬ sp_wt ρ p (wf n) < sp_zr ρ := by
      rw [Int32.le_iff_toInt_le, nI_toInt (by omega), wt_tab (wf n) (by omega) _ (by omega) _ (by omega)]
      unfold sp_wt
      omega
    by_cases c : sp_wt ρ p (wf n) < sp_zr ρ
    · rw [if_neg (fun q => (e.mp q) c), decide_eq_true c]
      cases b <;> cases sp_sm ρ n p <;> rfl
    · rw [if_pos (e.mpr c), decide_eq_false c]
      cases b <;> rfl
  unfold fX9_isCold fX9_isCold_L20 sp_cold
  rw [in_nI (by omega) (by omega), fd_g, if_pos rfl, nI_clamp (by omega), q2, show (3 : Int32) = nI 3 from rfl, show (20 : Int32) = nI 20 from rfl, fin, fin]
  by_cases e : sp_kd ρ p = 3
  · rw [if_pos (by rw [e]), decide_eq_true e]
    by_cases e2 : n < 20
    · rw [if_neg (nI_ge e2 (by omega)), decide_eq_true e2]; rfl
    · rw [if_pos (nI_le (by omega) (by omega)), decide_eq_false e2]; rfl
  · rw [if_neg (nI_ne e (by omega) (by omega)), decide_eq_false e]; rfl
/-- the last loop downwards -/
def sp_lo (q : Nat → Bool) (N : Nat) : Nat → Int32
  | 0 => -1
  | d + 1 => if q (N - 1 - d) = true then nI (N - 1 - d) else sp_lo q N d
theorem lo_cases (q : Nat → Bool) (N : Nat) : ∀ d, d ≤ N → ((∀ i, N - d ≤ i → i < N → q i = false) ∧ sp_lo q N d = -1) ∨ ∃ i, N - d ≤ i ∧ i < N ∧ q i = true ∧ (∀ j, N - d ≤ j → j < i → q j = false) ∧ sp_lo q N d = nI i
  | 0, _ => Or.inl ⟨fun i h1 h2 => by omega, rfl⟩
  | d + 1, h => by
    unfold sp_lo
    by_cases c : q (N - 1 - d) = true
    · right
      refine ⟨N - 1 - d, by omega, by omega, c, fun j h1 h2 => by omega, if_pos c⟩
    · rw [if_neg c]
      have c' : q (N - 1 - d) = false := by simpa using c
      rcases lo_cases q N d (by omega) with ⟨h1, h2⟩ | ⟨i, h1, h2, h3, h4, h5⟩
      · left
        refine ⟨fun i a b => ?_, h2⟩
        rcases Nat.lt_or_ge i (N - d) with e | e
        · have : i = N - 1 - d := by omega
          rw [this]; exact c'
        · exact h1 i e b
      · right
        refine ⟨i, by omega, h2, h3, fun j a b => ?_, h5⟩
        rcases Nat.lt_or_ge j (N - d) with e | e
        · have : j = N - 1 - d := by omega
          rw [this]; exact c'
        · exact h4 j e b
theorem lo_first (q : Nat → Bool) {N : Nat} (hN : N ≤ 40) : sp_lo q N N = sp_fI (sp_first q N) := by
  rcases lo_cases q N N (Nat.le_refl N) with ⟨h1, h2⟩ | ⟨i, h1, h2, h3, h4, h5⟩
  · have : sp_fs q N = N := fs_none (fun j hj => h1 j (by omega) hj)
    unfold sp_first sp_fI
    rw [this, if_neg (Nat.lt_irrefl N), h2]; rfl
  · have : sp_fs q N = i := fs_eq h2 h3 (fun j hj => h4 j (by omega) hj)
    unfold sp_first sp_fI
    rw [this, if_pos h2, if_pos (by omega), h5]
def mf (m ρ : fd_H) (fi : Nat → Nat) : Prop := ∀ p, p < sp_P ρ → m.1 88 p = sp_fI (fi p)
theorem lays_in {ρ : fd_H} {wf : Nat → Nat} {cf : Nat → Bool} {w p : Nat} (K2 : Int32 → fd_H → Option fd_H) (hv1 : sp_V1 ρ) (hv : sp_V2 ρ) (hp : p < sp_P ρ) (hw : ∀ n, n < sp_N ρ → wf n ≤ 25) : ∀ k f m, k ≤ sp_N ρ → k < f → mt m ρ wf cf w → m.1 88 p = sp_lo (fun n => sp_fr ρ wf cf w n p) (sp_N ρ) (sp_N ρ - k) → ∃ m', fX9_lays_L24 K2 f (nI p) (nI k - 1) m = K2 (nI (p + 1)) m' ∧ m'.1 88 p = sp_lo (fun n => sp_fr ρ wf cf w n p) (sp_N ρ) (sp_N ρ) ∧ (∀ x y, ¬ (x = 88 ∧ y = p) → m'.1 x y = m.1 x y) ∧ sp_raw m' = ρ := by
  have hP := P_le hv1
  have hN := N_le hv1
  intro k
  induction k with
  | zero =>
    intro f m hk hf h h8
    obtain ⟨f, rfl⟩ : ∃ k, f = k + 1 := ⟨f - 1, by omega⟩
    refine ⟨m, ?_, h8, fun x y _ => rfl, h.1⟩
    rw [fX9_lays_L24]; dsimp only
    rw [if_pos (by decide), nI_1]
  | succ k ih =>
    intro f m hk hf h h8
    obtain ⟨f, rfl⟩ : ∃ k, f = k + 1 := ⟨f - 1, by omega⟩
    have hd : sp_N ρ - k = (sp_N ρ - (k + 1)) + 1 := by omega
    have hlo : sp_lo (fun n => sp_fr ρ wf cf w n p) (sp_N ρ) (sp_N ρ - k) = if sp_fr ρ wf cf w k p = true then nI k else m.1 88 p := by
      rw [hd, h8]
      show (if sp_fr ρ wf cf w (sp_N ρ - 1 - (sp_N ρ - (k + 1))) p = true then nI (sp_N ρ - 1 - (sp_N ρ - (k + 1))) else _) = _
      rw [show sp_N ρ - 1 - (sp_N ρ - (k + 1)) = k by omega]
    have step : fX9_lays_L24 K2 (f + 1) (nI p) (nI (k + 1) - 1) m = fX9_lays_L24 K2 f (nI p) (nI k - 1) (fd_ui m 88 p (if sp_fr ρ wf cf w k p = true then nI k else m.1 88 p)) := by
      rw [m_one, fX9_lays_L24]; dsimp only
      have hc := mcold_eq hv1 hv h (by omega : k < sp_N ρ) hp (hw k (by omega))
      rw [if_neg (nI_pos (by omega)), show (2 : Int32) = nI 2 from rfl, isTold_eq h.1 hv h.2.2.2.2.2 (by omega) (by omega) (by omega), told2, Option.bind_some, hc, Option.bind_some]
      unfold fX9_lays_L60 fX9_lays_L61 fX9_lays_L81
      rw [in_nI (by omega : p < 8) (by omega), in_nI (by omega : k < 40) (by omega), fd_g, if_pos rfl, fd_g, if_pos rfl, fd_g, if_pos rfl, nI_clamp (by omega), nI_clamp (by omega), h.2.2.2.2.1 k (by omega), p_neg]
      unfold sp_fr
      cases sp_ic ρ w k p <;> cases cf k <;> cases (sp_cold ρ k p (wf k) && !sp_sm ρ k p) <;> rfl
    rw [step]
    have hr' : sp_raw (fd_ui m 88 p (if sp_fr ρ wf cf w k p = true then nI k else m.1 88 p)) = ρ := raw_ui2 h.1 rfl
    obtain ⟨m', e1, e2, e3, e4⟩ := ih f _ (by omega) (by omega) (h.of hr' (fun x y a _ => ui_g (by omega))) (by rw [ui_s, hlo])
    exact ⟨m', e1, e2, fun x y a => by rw [e3 x y a, ui_g a], e4⟩
theorem lays_out {ρ : fd_H} {wf : Nat → Nat} {cf : Nat → Bool} {w : Nat} (hv1 : sp_V1 ρ) (hv : sp_V2 ρ) (hw : ∀ n, n < sp_N ρ → wf n ≤ 25) : ∀ d p f m, p + d = sp_P ρ → d < f → mt m ρ wf cf w → (∀ i, i < p → m.1 88 i = sp_fI (sp_fi ρ wf cf w i)) → ∃ m', fX9_lays_L2 f (nI p) m = some m' ∧ mt m' ρ wf cf w ∧ mf m' ρ (sp_fi ρ wf cf w) ∧ ∀ x y, x ≠ 88 → m'.1 x y = m.1 x y := by
  have hP := P_le hv1
  have hN := N_le hv1
  intro d
  induction d with
  | zero =>
    intro p f m hd hf h h8
    obtain ⟨f, rfl⟩ : ∃ k, f = k + 1 := ⟨f - 1, by omega⟩
    refine ⟨m, ?_, h, fun i hi => h8 i (by omega), fun x y _ => rfl⟩
    rw [fX9_lays_L2]; dsimp only
    rw [h.2.1.1, if_pos (nI_le (by omega) (by omega))]
  | succ d ih =>
    intro p f m hd hf h h8
    obtain ⟨f, rfl⟩ : ∃ k, f = k + 1 := ⟨f - 1, by omega⟩
    have hr1 : sp_raw (fd_ui m 88 p (-1)) = ρ := raw_ui2 h.1 rfl
    have h1 : mt (fd_ui m 88 p (-1)) ρ wf cf w := h.of hr1 (fun x y a _ => ui_g (by omega))
    obtain ⟨m2, e1, e2, e3, e4⟩ := lays_in (fX9_lays_L2 f) hv1 hv (by omega : p < sp_P ρ) hw (sp_N ρ) fd_fu (fd_ui m 88 p (-1)) (Nat.le_refl _) (by have := fu_ge; omega) h1 (by rw [ui_s, Nat.sub_self]; rfl)
    have h2 : mt m2 ρ wf cf w := h1.of e4 (fun x y a _ => e3 x y (by omega))
    obtain ⟨m3, f1, f2, f3, f4⟩ := ih (p + 1) f m2 (by omega) (by omega) h2 (fun i hi => by
      rcases Nat.lt_or_ge i p with q | q
      · rw [e3 _ _ (by omega), ui_g (by omega), h8 i q]
      · have : i = p := by omega
        subst this
        rw [e2, lo_first _ hN]; rfl)
    refine ⟨m3, ?_, f2, f3, fun x y a => by rw [f4 x y a, e3 x y (by omega), ui_g (by omega)]⟩
    rw [fX9_lays_L2]; dsimp only
    rw [h.2.1.1, if_neg (nI_ge (by omega) (by omega)), in_nI (by omega) (by omega), fd_g, if_pos rfl, fd_lt, fd_lt, nI_clamp (by omega), h1.2.2.1.1, e1, f1]
theorem lays_eq {m ρ : fd_H} {wf : Nat → Nat} {cf : Nat → Bool} {w : Nat} (hv1 : sp_V1 ρ) (hv : sp_V2 ρ) (hw : ∀ n, n < sp_N ρ → wf n ≤ 25) (h : mt m ρ wf cf w) : ∃ m', fX9_lays m = some m' ∧ mt m' ρ wf cf w ∧ mf m' ρ (sp_fi ρ wf cf w) ∧ ∀ x y, x ≠ 88 → m'.1 x y = m.1 x y :=
  lays_out hv1 hv hw (sp_P ρ) 0 fd_fu m (Nat.zero_add _) (by have := fu_ge; have := P_le hv1; omega) h (fun i hi => absurd hi (Nat.not_lt_zero i))
