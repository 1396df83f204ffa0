/-! ===== ice to be carried, in the model: the least set ===== -/
theorem lpr {R : Type} {F : Nat → fd_H → Int32 → Option R} (I : fd_H → Prop) (lo m : Nat) (hs : ∀ n i h, lo ≤ i → i < m → I h → ∃ h', I h' ∧ F (n + 1) h (nI i) = F n h' (nI (i + 1))) : ∀ d n i h, lo ≤ i → i + d = m → d < n → I h → ∃ h' n', I h' ∧ F n h (nI i) = F (n' + 1) h' (nI m) := by
  intro d
  induction d with
  | zero =>
    intro n i h h0 h1 h2 h3
    obtain ⟨n, rfl⟩ : ∃ k, n = k + 1 := ⟨n - 1, by omega⟩
    have : i = m := by omega
    subst this
    exact ⟨h, n, h3, rfl⟩
  | succ d ih =>
    intro n i h h0 h1 h2 h3
    obtain ⟨n, rfl⟩ : ∃ k, n = k + 1 := ⟨n - 1, by omega⟩
    obtain ⟨g, g1, g2⟩ := hs n i h h0 (by omega) h3
    obtain ⟨g', n', k1, k2⟩ := ih n (i + 1) g (by omega) (by omega) (by omega) g1
    exact ⟨g', n', k1, g2.trans k2⟩
def MT (ρ h : fd_H) : Prop := mt h ρ (sp_wm ρ) (sp_cl ρ) 8
theorem wI_lt {i : Nat} (h : i < 8) : sp_wI i = nI i := if_pos h
theorem try3 {m ρ : fd_H} {a n i j l : Nat} (hv : sp_V ρ) (h : MT ρ m) (ha : a < 6) (hn : n < 40) (hi : i < 8) (hj : j < 8) (hl : l < 8) : ∃ m', fX9_carries (nI a) (nI n) (nI i) (nI j) (nI l) m = some (sp_cv ρ a n i j l, m') ∧ MT ρ m' ∧ m'.1 89 0 = nI i ∧ m'.1 89 1 = nI j ∧ m'.1 89 2 = nI l := by
  have k := carries_eq i j l hv h ha hn
  rw [wI_lt hi, wI_lt hj, wI_lt hl] at k
  exact k
theorem try2 {m ρ : fd_H} {a n i j : Nat} (hv : sp_V ρ) (h : MT ρ m) (ha : a < 6) (hn : n < 40) (hi : i < 8) (hj : j < 8) : ∃ m', fX9_carries (nI a) (nI n) (nI i) (nI j) (-1) m = some (sp_cv ρ a n i j 8, m') ∧ MT ρ m' ∧ m'.1 89 0 = nI i ∧ m'.1 89 1 = nI j := by
  obtain ⟨m', k1, k2, k3, k4, -⟩ := carries_eq i j 8 hv h ha hn
  rw [wI_lt hi] at k1 k3
  rw [wI_lt hj] at k1 k4
  exact ⟨m', k1, k2, k3, k4⟩
theorem try1 {m ρ : fd_H} {a n i : Nat} (hv : sp_V ρ) (h : MT ρ m) (ha : a < 6) (hn : n < 40) (hi : i < 8) : ∃ m', fX9_carries (nI a) (nI n) (nI i) (-1) (-1) m = some (sp_cv ρ a n i 8 8, m') ∧ MT ρ m' ∧ m'.1 89 0 = nI i := by
  obtain ⟨m', k1, k2, k3, -⟩ := carries_eq i 8 8 hv h ha hn
  rw [wI_lt hi] at k1 k3
  exact ⟨m', k1, k2, k3⟩
theorem try0 {m ρ : fd_H} {a n : Nat} (hv : sp_V ρ) (h : MT ρ m) (ha : a < 6) (hn : n < 40) : ∃ m', fX9_carries (nI a) (nI n) (-1) (-1) (-1) m = some (sp_cv ρ a n 8 8 8, m') ∧ MT ρ m' := by
  obtain ⟨m', k1, k2, -⟩ := carries_eq 8 8 8 hv h ha hn
  exact ⟨m', k1, k2⟩
theorem l20_run {ρ h : fd_H} {a n T : Nat} (hv : sp_V ρ) (ha : a < 6) (hn : n < 40) (hT : T ≤ sp_P ρ) (hf : ∀ i, i < T → sp_cv ρ a n i 8 8 = false) (hh : MT ρ h) : ∃ h' f', MT ρ h' ∧ fX9_carryBy_L20 (nI a) (nI n) fd_fu 0 h = fX9_carryBy_L20 (nI a) (nI n) (f' + 1) (nI T) h' := by
  have hb := P_le hv.1
  refine lpr (F := fun f g i => fX9_carryBy_L20 (nI a) (nI n) f i g) (MT ρ) 0 T ?_ T fd_fu 0 h (Nat.le_refl 0) (by omega) (by have := fu_ge; omega) hh
  intro f i g _ hi hg
  obtain ⟨g', k1, k2, -⟩ := try1 hv hg ha hn (by omega : i < 8)
  refine ⟨g', k2, ?_⟩
  show fX9_carryBy_L20 (nI a) (nI n) (f + 1) (nI i) g = fX9_carryBy_L20 (nI a) (nI n) f (nI (i + 1)) g'
  rw [fX9_carryBy_L20]; dsimp only
  rw [hg.2.1.1, if_neg (nI_ge (by omega) (by omega)), k1, Option.bind_some]; dsimp only
  rw [hf i hi, if_neg (by decide), nI_1]
theorem l63_run {ρ h : fd_H} {a n i lo T : Nat} (K : Int32 → fd_H → Option (Int32 × fd_H)) (hv : sp_V ρ) (ha : a < 6) (hn : n < 40) (hi : i < 8) (hlo : lo ≤ T) (hT : T ≤ sp_P ρ) (hf : ∀ j, lo ≤ j → j < T → sp_cv ρ a n i j 8 = false) (hh : MT ρ h) : ∃ h' f', MT ρ h' ∧ fX9_carryBy_L63 (nI a) (nI n) K fd_fu (nI i) (nI lo) h = fX9_carryBy_L63 (nI a) (nI n) K (f' + 1) (nI i) (nI T) h' := by
  have hb := P_le hv.1
  refine lpr (F := fun f g j => fX9_carryBy_L63 (nI a) (nI n) K f (nI i) j g) (MT ρ) lo T ?_ (T - lo) fd_fu lo h (Nat.le_refl _) (by omega) (by have := fu_ge; omega) hh
  intro f j g hj0 hj hg
  obtain ⟨g', k1, k2, -⟩ := try2 hv hg ha hn hi (by omega : j < 8)
  refine ⟨g', k2, ?_⟩
  show fX9_carryBy_L63 (nI a) (nI n) K (f + 1) (nI i) (nI j) g = fX9_carryBy_L63 (nI a) (nI n) K f (nI i) (nI (j + 1)) g'
  rw [fX9_carryBy_L63]; dsimp only
  rw [hg.2.1.1, if_neg (nI_ge (by omega) (by omega)), k1, Option.bind_some]; dsimp only
  rw [hf j hj0 hj, if_neg (by decide), nI_1]
theorem l50_run {ρ h : fd_H} {a n T : Nat} (hv : sp_V ρ) (ha : a < 6) (hn : n < 40) (hT : T ≤ sp_P ρ) (hf : ∀ i j, i < T → i < j → j < sp_P ρ → sp_cv ρ a n i j 8 = false) (hh : MT ρ h) : ∃ h' f', MT ρ h' ∧ fX9_carryBy_L50 (nI a) (nI n) fd_fu 0 h = fX9_carryBy_L50 (nI a) (nI n) (f' + 1) (nI T) h' := by
  have hb := P_le hv.1
  refine lpr (F := fun f g i => fX9_carryBy_L50 (nI a) (nI n) f i g) (MT ρ) 0 T ?_ T fd_fu 0 h (Nat.le_refl 0) (by omega) (by have := fu_ge; omega) hh
  intro f i g _ hi hg
  obtain ⟨g', f', k1, k2⟩ := l63_run (fX9_carryBy_L50 (nI a) (nI n) f) hv ha hn (by omega : i < 8) (by omega : i + 1 ≤ sp_P ρ) (Nat.le_refl _) (fun j h1 h2 => hf i j hi (by omega) h2) hg
  refine ⟨g', k1, ?_⟩
  show fX9_carryBy_L50 (nI a) (nI n) (f + 1) (nI i) g = fX9_carryBy_L50 (nI a) (nI n) f (nI (i + 1)) g'
  rw [fX9_carryBy_L50]; dsimp only
  rw [hg.2.1.1, if_neg (nI_ge (by omega) (by omega)), fd_lt, nI_1, k2, fX9_carryBy_L63]; dsimp only
  rw [k1.2.1.1, if_pos (nI_le (Nat.le_refl _) (by omega)), nI_1]
theorem l129_run {ρ h : fd_H} {a n i j lo T : Nat} (K : Int32 → Int32 → fd_H → Option (Int32 × fd_H)) (hv : sp_V ρ) (ha : a < 6) (hn : n < 40) (hi : i < 8) (hj : j < 8) (hlo : lo ≤ T) (hT : T ≤ sp_P ρ) (hf : ∀ l, lo ≤ l → l < T → sp_cv ρ a n i j l = false) (hh : MT ρ h) : ∃ h' f', MT ρ h' ∧ fX9_carryBy_L129 (nI a) (nI n) K fd_fu (nI i) (nI j) (nI lo) h = fX9_carryBy_L129 (nI a) (nI n) K (f' + 1) (nI i) (nI j) (nI T) h' := by
  have hb := P_le hv.1
  refine lpr (F := fun f g l => fX9_carryBy_L129 (nI a) (nI n) K f (nI i) (nI j) l g) (MT ρ) lo T ?_ (T - lo) fd_fu lo h (Nat.le_refl _) (by omega) (by have := fu_ge; omega) hh
  intro f l g hl0 hl hg
  obtain ⟨g', k1, k2, -⟩ := try3 hv hg ha hn hi hj (by omega : l < 8)
  refine ⟨g', k2, ?_⟩
  show fX9_carryBy_L129 (nI a) (nI n) K (f + 1) (nI i) (nI j) (nI l) g = fX9_carryBy_L129 (nI a) (nI n) K f (nI i) (nI j) (nI (l + 1)) g'
  rw [fX9_carryBy_L129]; dsimp only
  rw [hg.2.1.1, if_neg (nI_ge (by omega) (by omega)), k1, Option.bind_some]; dsimp only
  rw [hf l hl0 hl, if_neg (by decide), nI_1]
theorem l114_run {ρ h : fd_H} {a n i lo T : Nat} (K : Int32 → fd_H → Option (Int32 × fd_H)) (hv : sp_V ρ) (ha : a < 6) (hn : n < 40) (hi : i < 8) (hlo : lo ≤ T) (hT : T ≤ sp_P ρ) (hf : ∀ j l, lo ≤ j → j < T → j < l → l < sp_P ρ → sp_cv ρ a n i j l = false) (hh : MT ρ h) : ∃ h' f', MT ρ h' ∧ fX9_carryBy_L114 (nI a) (nI n) K fd_fu (nI i) (nI lo) h = fX9_carryBy_L114 (nI a) (nI n) K (f' + 1) (nI i) (nI T) h' := by
  have hb := P_le hv.1
  refine lpr (F := fun f g j => fX9_carryBy_L114 (nI a) (nI n) K f (nI i) j g) (MT ρ) lo T ?_ (T - lo) fd_fu lo h (Nat.le_refl _) (by omega) (by have := fu_ge; omega) hh
  intro f j g hj0 hj hg
  obtain ⟨g', f', k1, k2⟩ := l129_run (fX9_carryBy_L114 (nI a) (nI n) K f) hv ha hn hi (by omega : j < 8) (by omega : j + 1 ≤ sp_P ρ) (Nat.le_refl _) (fun l h1 h2 => hf j l hj0 hj (by omega) h2) hg
  refine ⟨g', k1, ?_⟩
  show fX9_carryBy_L114 (nI a) (nI n) K (f + 1) (nI i) (nI j) g = fX9_carryBy_L114 (nI a) (nI n) K f (nI i) (nI (j + 1)) g'
  rw [fX9_carryBy_L114]; dsimp only
  rw [hg.2.1.1, if_neg (nI_ge (by omega) (by omega)), fd_lt, nI_1, k2, fX9_carryBy_L129]; dsimp only
  rw [k1.2.1.1, if_pos (nI_le (Nat.le_refl _) (by omega)), nI_1]
theorem l101_run {ρ h : fd_H} {a n T : Nat} (hv : sp_V ρ) (ha : a < 6) (hn : n < 40) (hT : T ≤ sp_P ρ) (hf : ∀ i j l, i < T → i < j → j < l → l < sp_P ρ → sp_cv ρ a n i j l = false) (hh : MT ρ h) : ∃ h' f', MT ρ h' ∧ fX9_carryBy_L101 (nI a) (nI n) fd_fu 0 h = fX9_carryBy_L101 (nI a) (nI n) (f' + 1) (nI T) h' := by
  have hb := P_le hv.1
  refine lpr (F := fun f g i => fX9_carryBy_L101 (nI a) (nI n) f i g) (MT ρ) 0 T ?_ T fd_fu 0 h (Nat.le_refl 0) (by omega) (by have := fu_ge; omega) hh
  intro f i g _ hi hg
  obtain ⟨g', f', k1, k2⟩ := l114_run (fX9_carryBy_L101 (nI a) (nI n) f) hv ha hn (by omega : i < 8) (by omega : i + 1 ≤ sp_P ρ) (Nat.le_refl _) (fun j l h1 h2 h3 h4 => hf i j l hi (by omega) h3 h4) hg
  refine ⟨g', k1, ?_⟩
  show fX9_carryBy_L101 (nI a) (nI n) (f + 1) (nI i) g = fX9_carryBy_L101 (nI a) (nI n) f (nI (i + 1)) g'
  rw [fX9_carryBy_L101]; dsimp only
  rw [hg.2.1.1, if_neg (nI_ge (by omega) (by omega)), fd_lt, nI_1, k2, fX9_carryBy_L114]; dsimp only
  rw [k1.2.1.1, if_pos (nI_le (Nat.le_refl _) (by omega)), nI_1]
theorem nx (S : Nat → Bool) (lo : Nat) : (∀ i, lo ≤ i → i < 8 → S i = false) ∨ ∃ u, lo ≤ u ∧ u < 8 ∧ S u = true ∧ ∀ i, lo ≤ i → i < u → S i = false := by
  have no := fs_no (fun i => decide (lo ≤ i) && S i) 8
  by_cases c : sp_fs (fun i => decide (lo ≤ i) && S i) 8 < 8
  · right
    have yes := fs_yes (fun i => decide (lo ≤ i) && S i) 8 c
    generalize sp_fs (fun i => decide (lo ≤ i) && S i) 8 = u at *
    simp only [Bool.and_eq_true, decide_eq_true_eq] at yes
    refine ⟨u, yes.1, c, yes.2, fun i h1 h2 => ?_⟩
    have := no i h2
    rw [decide_eq_true h1, Bool.true_and] at this
    exact this
  · left
    intro i h1 h2
    have := no i (by omega)
    rw [decide_eq_true h1, Bool.true_and] at this
    exact this
theorem tb1 : ∀ u, u < 8 → sp_ct (fun t => decide (t = u)) 8 = 1 ∧ ∀ j, j < 3 → sp_first (sp_jt (fun t => decide (t = u)) j) 8 = if j < 1 then u else 40 := by decide +kernel
theorem tb2 : ∀ u, u < 8 → ∀ v, v < 8 → u < v → sp_ct (fun t => decide (t = u ∨ t = v)) 8 = 2 ∧ ∀ j, j < 3 → sp_first (sp_jt (fun t => decide (t = u ∨ t = v)) j) 8 = if j < 2 then (if j = 0 then u else v) else 40 := by decide +kernel
def tb3f (u v w t : Nat) : Bool := decide (t = u ∨ t = v ∨ t = w)
def tb3b (u v w : Nat) : Bool := !(decide (u < v) && decide (v < w)) || (decide (sp_ct (tb3f u v w) 8 = 3) && decide (sp_first (sp_jt (tb3f u v w) 0) 8 = u) && decide (sp_first (sp_jt (tb3f u v w) 1) 8 = v) && decide (sp_first (sp_jt (tb3f u v w) 2) 8 = w))
theorem tb3a : ∀ u, u < 8 → ∀ v, v < 8 → ∀ w, w < 8 → tb3b u v w = true := by decide +kernel
theorem tb3 {u v w : Nat} (hu : u < 8) (hv : v < 8) (hw : w < 8) (h1 : u < v) (h2 : v < w) : sp_ct (fun t => decide (t = u ∨ t = v ∨ t = w)) 8 = 3 ∧ ∀ j, j < 3 → sp_first (sp_jt (fun t => decide (t = u ∨ t = v ∨ t = w)) j) 8 = if j < 3 then (if j = 0 then u else if j = 1 then v else w) else 40 := by
  have h := tb3a u hu v hv w hw
  unfold tb3b at h
  rw [decide_eq_true h1, decide_eq_true h2, Bool.true_and, Bool.not_true, Bool.false_or] at h
  simp only [Bool.and_eq_true, decide_eq_true_eq] at h
  obtain ⟨⟨⟨k0, k1⟩, k2⟩, k3⟩ := h
  refine ⟨k0, fun j hj => ?_⟩
  rw [if_pos hj]
  rcases (show j = 0 ∨ j = 1 ∨ j = 2 by omega) with rfl | rfl | rfl
  · exact k1
  · exact k2
  · exact k3
theorem first_cong {q r : Nat → Bool} {n : Nat} (h : ∀ j, j < n → q j = r j) : sp_first q n = sp_first r n := by
  unfold sp_first
  rw [fs_cong h]
theorem jt_cong {q r : Nat → Bool} {n j : Nat} (h : ∀ j, j < n → q j = r j) : sp_first (sp_jt q j) n = sp_first (sp_jt r j) n := first_cong (fun t ht => by
  unfold sp_jt
  rw [h t ht, ct_cong (fun u hu => h u (by omega))])
/-- what the answers are, once the least set is known -/
theorem car_fin {S : Nat → Bool} {k : Nat} {e : Nat → Nat} {r c : Int32} {m : fd_H} (hr : r = nI k) (hk : k ≤ 3) (h1 : sp_ct S 8 = k) (h2 : ∀ j, j < 3 → sp_first (sp_jt S j) 8 = if j < k then e j else 40) (h3 : ∀ j, j < k → e j < 8 ∧ m.1 89 j = nI (e j)) (hc : c = -1 ∨ ∃ j, j < 3 ∧ c = nI j) : (if c = -1 then r else if r ≤ c then -1 else m.1 89 c.toNatClampNeg) = if 3 < sp_ct S 8 then -1 else sp_ci S 8 c := by
  have n3 : ¬ 3 < sp_ct S 8 := by omega
  rw [if_neg n3, hr]
  unfold sp_ci sp_fd
  rcases hc with rfl | ⟨j, hj, rfl⟩
  · rw [if_pos rfl, if_pos rfl, h1]
  · have n1 : ¬ nI j = -1 := m1_ne (by omega)
    rw [if_neg n1, if_neg n1, if_neg n1, nI_clamp (by omega), h2 j hj]
    by_cases q : j < k
    · have h4 := h3 j q
      rw [if_neg (nI_ge q (by omega)), if_pos q, h4.2]
      unfold sp_fI
      rw [if_pos (by omega)]
    · rw [if_pos (nI_le (by omega) (by omega)), if_neg q]; rfl
set_option maxHeartbeats 2000000 in
theorem carryBy_eq {m ρ : fd_H} {a n : Nat} (hr : sp_raw m = ρ) (hv : sp_V ρ) (ha : a < 6) (hn : n < 40) : ∃ r m', fX9_carryBy (nI a) (nI n) m = some (r, m') ∧ MT ρ m' ∧ ∀ c, (c = -1 ∨ ∃ j, j < 3 ∧ c = nI j) → (if c = -1 then r else if r ≤ c then -1 else m'.1 89 c.toNatClampNeg) = sp_cw ρ a n c := by
  have hb := P_le hv.1
  obtain ⟨m1, e1, h1⟩ := asTold_eq hr hv.1 hv.2.1
  obtain ⟨m2, e2, h2⟩ := try0 hv h1 ha hn
  have cP : ∀ i, sp_cs ρ a n i = true → i < sp_P ρ := by
    intro i hi
    obtain ⟨d, k1, k2, k3, k4⟩ := cs_iff.mp hi
    rw [k4] at k3
    exact (st_iff.mp k3).1
  have no : ∀ {o1 o2 o3 : Nat}, (sp_cv ρ a n o1 o2 o3 = true → False) → sp_cv ρ a n o1 o2 o3 = false := by
    intro o1 o2 o3 h
    cases z : sp_cv ρ a n o1 o2 o3
    · rfl
    · exact (h z).elim
  unfold fX9_carryBy sp_cw
  rw [e1, Option.bind_some, e2, Option.bind_some]; dsimp only
  rcases nx (sp_cs ρ a n) 0 with z | ⟨u, -, u8, su, zu⟩
  · have c0 : sp_cv ρ a n 8 8 8 = true := cv_iff.mpr (fun i hi => by
      have := cs_8 hi
      rw [z i (Nat.zero_le i) this] at hi; cases hi)
    rw [c0, if_pos rfl]
    refine ⟨0, m2, rfl, h2, fun c hc => car_fin (k := 0) (e := fun _ => 0) rfl (by omega) (ct_zero 8 (fun j hj => z j (Nat.zero_le j) hj)) (fun j hj => ?_) (fun j hj => absurd hj (Nat.not_lt_zero j)) hc⟩
    rw [if_neg (Nat.not_lt_zero j), jt_cong (r := fun _ => false) (fun i hi => z i (Nat.zero_le i) hi)]
    have t : ∀ j, j < 3 → sp_first (sp_jt (fun _ => false) j) 8 = 40 := by decide +kernel
    exact t j hj
  · have mu : ∀ {o1 o2 o3 : Nat}, sp_cv ρ a n o1 o2 o3 = true → u = o1 ∨ u = o2 ∨ u = o3 := fun h => cv_iff.mp h u su
    have uP := cP u su
    rw [no (fun h => by have := mu h; omega), if_neg (by decide)]
    rcases nx (sp_cs ρ a n) (u + 1) with z | ⟨v, uv, v8, sv, zv⟩
    · have S1 : ∀ i, i < 8 → sp_cs ρ a n i = decide (i = u) := by
        intro i hi
        rcases Nat.lt_trichotomy i u with q | q | q
        · rw [zu i (Nat.zero_le i) q, decide_eq_false (by omega)]
        · subst q; rw [su, decide_eq_true rfl]
        · rw [z i q hi, decide_eq_false (by omega)]
      have c1 : sp_cv ρ a n u 8 8 = true := cv_iff.mpr (fun i hi => by
        rw [S1 i (cs_8 hi)] at hi
        exact Or.inl (of_decide_eq_true hi))
      obtain ⟨g, f, k1, k2⟩ := l20_run hv ha hn (Nat.le_of_lt uP) (fun i hi => no (fun h => by have := mu h; omega)) h2
      obtain ⟨g', w1, w2, w3⟩ := try1 hv k1 ha hn u8
      refine ⟨1, g', ?_, w2, fun c hc => car_fin (k := 1) (e := fun _ => u) rfl (by omega) ((ct_cong S1).trans (tb1 u u8).1) (fun j hj => (jt_cong S1).trans ((tb1 u u8).2 j hj)) (fun j hj => ⟨u8, by rw [show j = 0 by omega]; exact w3⟩) hc⟩
      rw [k2, fX9_carryBy_L20]; dsimp only
      rw [k1.2.1.1, if_neg (nI_ge uP (by omega)), w1, Option.bind_some]; dsimp only
      rw [c1, if_pos rfl]
    · have mv : ∀ {o1 o2 o3 : Nat}, sp_cv ρ a n o1 o2 o3 = true → v = o1 ∨ v = o2 ∨ v = o3 := fun h => cv_iff.mp h v sv
      have vP := cP v sv
      obtain ⟨g, f, k1, k2⟩ := l20_run hv ha hn (Nat.le_refl _) (fun i hi => no (fun h => by have := mu h; have := mv h; omega)) h2
      rw [k2, fX9_carryBy_L20]; dsimp only
      rw [k1.2.1.1, if_pos (nI_le (Nat.le_refl _) (by omega))]
      clear k2 h2 e2
      rcases nx (sp_cs ρ a n) (v + 1) with z | ⟨w, vw, w8, sw, zw⟩
      · have S1 : ∀ i, i < 8 → sp_cs ρ a n i = decide (i = u ∨ i = v) := by
          intro i hi
          rcases Nat.lt_trichotomy i u with q | q | q
          · rw [zu i (Nat.zero_le i) q, decide_eq_false (by omega)]
          · subst q; rw [su, decide_eq_true (Or.inl rfl)]
          · rcases Nat.lt_trichotomy i v with p | p | p
            · rw [zv i q p, decide_eq_false (by omega)]
            · subst p; rw [sv, decide_eq_true (Or.inr rfl)]
            · rw [z i p hi, decide_eq_false (by omega)]
        have c1 : sp_cv ρ a n u v 8 = true := cv_iff.mpr (fun i hi => by
          rw [S1 i (cs_8 hi)] at hi
          have := of_decide_eq_true hi
          omega)
        obtain ⟨g2, f2, k3, k4⟩ := l50_run hv ha hn (Nat.le_of_lt uP) (fun i j h1 h2 h3 => no (fun h => by have := mu h; have := mv h; omega)) k1
        obtain ⟨g3, f3, k5, k6⟩ := l63_run (fX9_carryBy_L50 (nI a) (nI n) f2) hv ha hn u8 (by omega : u + 1 ≤ v) (Nat.le_of_lt vP) (fun j h1 h2 => no (fun h => by have := mu h; have := mv h; omega)) k3
        obtain ⟨g', w1, w2, w3, w4⟩ := try2 hv k5 ha hn u8 v8
        refine ⟨2, g', ?_, w2, fun c hc => car_fin (k := 2) (e := fun j => if j = 0 then u else v) rfl (by omega) ((ct_cong S1).trans (tb2 u u8 v v8 (by omega)).1) (fun j hj => (jt_cong S1).trans ((tb2 u u8 v v8 (by omega)).2 j hj)) (fun j hj => ?_) hc⟩
        · rw [k4, fX9_carryBy_L50]; dsimp only
          rw [k3.2.1.1, if_neg (nI_ge uP (by omega)), fd_lt, nI_1, k6, fX9_carryBy_L63]; dsimp only
          rw [k5.2.1.1, if_neg (nI_ge vP (by omega)), w1, Option.bind_some]; dsimp only
          rw [c1, if_pos rfl]
        · rcases (show j = 0 ∨ j = 1 by omega) with rfl | rfl
          · exact ⟨u8, w3⟩
          · exact ⟨v8, w4⟩
      · have mw : ∀ {o1 o2 o3 : Nat}, sp_cv ρ a n o1 o2 o3 = true → w = o1 ∨ w = o2 ∨ w = o3 := fun h => cv_iff.mp h w sw
        have wP := cP w sw
        obtain ⟨g2, f2, k3, k4⟩ := l50_run hv ha hn (Nat.le_refl _) (fun i j h1 h2 h3 => no (fun h => by have := mu h; have := mv h; have := mw h; omega)) k1
        rw [k4, fX9_carryBy_L50]; dsimp only
        rw [k3.2.1.1, if_pos (nI_le (Nat.le_refl _) (by omega))]
        clear k4 k1
        rcases nx (sp_cs ρ a n) (w + 1) with z | ⟨x, wx, x8, sx, zx⟩
        · have S1 : ∀ i, i < 8 → sp_cs ρ a n i = decide (i = u ∨ i = v ∨ i = w) := by
            intro i hi
            rcases Nat.lt_trichotomy i u with q | q | q
            · rw [zu i (Nat.zero_le i) q, decide_eq_false (by omega)]
            · subst q; rw [su, decide_eq_true (Or.inl rfl)]
            · rcases Nat.lt_trichotomy i v with p | p | p
              · rw [zv i q p, decide_eq_false (by omega)]
              · subst p; rw [sv, decide_eq_true (Or.inr (Or.inl rfl))]
              · rcases Nat.lt_trichotomy i w with o | o | o
                · rw [zw i p o, decide_eq_false (by omega)]
                · subst o; rw [sw, decide_eq_true (Or.inr (Or.inr rfl))]
                · rw [z i o hi, decide_eq_false (by omega)]
          have c1 : sp_cv ρ a n u v w = true := cv_iff.mpr (fun i hi => by
            rw [S1 i (cs_8 hi)] at hi
            exact of_decide_eq_true hi)
          obtain ⟨g3, f3, k5, k6⟩ := l101_run hv ha hn (Nat.le_of_lt uP) (fun i j l h1 h2 h3 h4 => no (fun h => by have := mu h; have := mv h; have := mw h; omega)) k3
          obtain ⟨g4, f4, k7, k8⟩ := l114_run (fX9_carryBy_L101 (nI a) (nI n) f3) hv ha hn u8 (by omega : u + 1 ≤ v) (Nat.le_of_lt vP) (fun j l h1 h2 h3 h4 => no (fun h => by have := mu h; have := mv h; have := mw h; omega)) k5
          obtain ⟨g5, f5, k9, k10⟩ := l129_run (fX9_carryBy_L114 (nI a) (nI n) (fX9_carryBy_L101 (nI a) (nI n) f3) f4) hv ha hn u8 v8 (by omega : v + 1 ≤ w) (Nat.le_of_lt wP) (fun l h1 h2 => no (fun h => by have := mu h; have := mv h; have := mw h; omega)) k7
          obtain ⟨g', w1, w2, w3, w4, w5⟩ := try3 hv k9 ha hn u8 v8 w8
          have tb := tb3 u8 v8 w8 (by omega) (by omega)
          refine ⟨3, g', ?_, w2, fun c hc => car_fin (k := 3) (e := fun j => if j = 0 then u else if j = 1 then v else w) rfl (by omega) ((ct_cong S1).trans tb.1) (fun j hj => (jt_cong S1).trans (tb.2 j hj)) (fun j hj => ?_) hc⟩
          · rw [k6, fX9_carryBy_L101]; dsimp only
            rw [k5.2.1.1, if_neg (nI_ge uP (by omega)), fd_lt, nI_1, k8, fX9_carryBy_L114]; dsimp only
            rw [k7.2.1.1, if_neg (nI_ge vP (by omega)), fd_lt, nI_1, k10, fX9_carryBy_L129]; dsimp only
            rw [k9.2.1.1, if_neg (nI_ge wP (by omega)), w1, Option.bind_some]; dsimp only
            rw [c1, if_pos rfl]
          · rcases (show j = 0 ∨ j = 1 ∨ j = 2 by omega) with rfl | rfl | rfl
            · exact ⟨u8, w3⟩
            · exact ⟨v8, w4⟩
            · exact ⟨w8, w5⟩
        · have mx : ∀ {o1 o2 o3 : Nat}, sp_cv ρ a n o1 o2 o3 = true → x = o1 ∨ x = o2 ∨ x = o3 := fun h => cv_iff.mp h x sx
          obtain ⟨g3, f3, k5, k6⟩ := l101_run hv ha hn (Nat.le_refl _) (fun i j l h1 h2 h3 h4 => no (fun h => by have := mu h; have := mv h; have := mw h; have := mx h; omega)) k3
          have big : 3 < sp_ct (sp_cs ρ a n) 8 := by
            have a1 := ct_s1 (q := sp_cs ρ a n) su
            have a2 := ct_s1 (q := sp_cs ρ a n) sv
            have a3 := ct_s1 (q := sp_cs ρ a n) sw
            have a4 := ct_s1 (q := sp_cs ρ a n) sx
            have b1 := ct_mono (q := sp_cs ρ a n) (a := u + 1) v uv
            have b2 := ct_mono (q := sp_cs ρ a n) (a := v + 1) w vw
            have b3 := ct_mono (q := sp_cs ρ a n) (a := w + 1) x wx
            have b4 := ct_mono (q := sp_cs ρ a n) (a := x + 1) 8 x8
            omega
          refine ⟨-1, g3, ?_, k5, fun c hc => ?_⟩
          · rw [k6, fX9_carryBy_L101]; dsimp only
            rw [k5.2.1.1, if_pos (nI_le (Nat.le_refl _) (by omega))]
          · rw [if_pos big]
            rcases hc with rfl | ⟨j, hj, rfl⟩
            · rw [if_pos rfl]
            · have l1 : (-1 : Int32) ≤ nI j := by
                rw [Int32.le_iff_toInt_le, nI_toInt (by omega)]
                have e1 : (-1 : Int32).toInt = -1 := rfl
                omega
              rw [if_neg (m1_ne (by omega)), if_pos l1]
theorem carryOf_eq {m ρ : fd_H} {a n : Nat} {c : Int32} (hr : sp_raw m = ρ) (hv : sp_V ρ) (ha : a < 6) (hn : n < 40) (hc : c = -1 ∨ ∃ j, j < 3 ∧ c = nI j) : ∃ m', fX9_carryOf (nI a) (nI n) c m = some (sp_cw ρ a n c, m') ∧ MT ρ m' := by
  obtain ⟨r, m', e1, e2, e3⟩ := carryBy_eq hr hv ha hn
  refine ⟨m', ?_, e2⟩
  rw [← e3 c hc]
  unfold fX9_carryOf
  rw [e1, Option.bind_some]; dsimp only
  rcases hc with rfl | ⟨j, hj, rfl⟩
  · rw [if_pos rfl, if_pos rfl]
  · have n1 : ¬ nI j = -1 := m1_ne (by omega)
    rw [if_neg n1, if_neg n1, in_nI hj (by omega), fd_g, if_pos rfl]
    by_cases q : r ≤ nI j
    · rw [if_pos q, if_pos q]
    · rw [if_neg q, if_neg q]
theorem carry_m {m ρ : fd_H} {a n : Nat} {c : Int32} (hr : sp_raw m = ρ) (hv : sp_V ρ) (ha : a < 6) (hn : n < sp_N ρ) (hc : c = -1 ∨ ∃ j, j < 3 ∧ c = nI j) : ∃ m', fX9_carry (nI a) (nI n) c m = some (sp_cw ρ a n c, m') ∧ MT ρ m' := by
  have hN := N_le hv.1
  obtain ⟨m1, f1, f2⟩ := isNight_y hr hv.1 hn
  obtain ⟨m2, e1, e2⟩ := carryOf_eq f2.1 hv ha (by omega : n < 40) hc
  refine ⟨m2, ?_, e2⟩
  unfold fX9_carry
  rw [show (5 : Int32) = nI 5 from rfl, mbelow_y (by omega) (by omega), Option.bind_some, if_pos rfl, f1, Option.bind_some]; dsimp only
  rw [if_pos rfl, show (2 : Int32) = nI 2 from rfl, (choice_y (n := 2) (by omega) hc).2, Option.bind_some, if_pos rfl, e1]
  rfl
theorem carry_mn {m ρ : fd_H} {a : Nat} {b c : Int32} (hr : sp_raw m = ρ) (hv : sp_V ρ) (ha : a < 6) (h : b < 0 ∨ nI (sp_N ρ) ≤ b) : ∃ m', fX9_carry (nI a) b c m = some (-2, m') ∧ mp_R m' ρ := by
  obtain ⟨m1, f1, f2⟩ := isNight_n hr hv.1 h
  refine ⟨m1, ?_, f2⟩
  unfold fX9_carry
  rw [show (5 : Int32) = nI 5 from rfl, mbelow_y (by omega) (by omega), Option.bind_some, if_pos rfl, f1]; rfl
theorem carry_cn {h ρ : fd_H} {a : Nat} {b c : Int32} (cx : CX h ρ) (ha : a < 6) (hb : b < 0 ∨ nI (sp_N ρ) ≤ b) : fX8_carry (nI a) b c h = some (-2) := by
  unfold fX8_carry
  rw [show (6 : Int32) = nI 6 from rfl, below_y ha (by omega), Option.bind_some, if_pos rfl, cx.N.1, below_n hb]; rfl
theorem q_carry : pp_carry RR := by
  intro hx hm a b d ⟨ρ, hr, hv, hc⟩
  have hN := N_le hv.1
  rcases below_cases a (n := 5 + 1) (by omega) with ⟨p, hp, rfl⟩ | h
  · rcases below_cases b (n := sp_N ρ) (by omega) with ⟨n, hn, rfl⟩ | h2
    · rcases choice_cases d (n := 2 + 1) (by omega) with h3 | h3
      · obtain ⟨m2, e2, h2⟩ := carry_m hr hv hp hn h3
        rw [carry_c hv hc hp hn h3, e2]
        exact ⟨_, m2, rfl, rfl, ρ, h2.1, hv, hc⟩
      · obtain ⟨m1, f1, f2⟩ := isNight_y hr hv.1 hn
        unfold fX8_carry fX9_carry
        rw [show (5 : Int32) = nI 5 from rfl, mbelow_y (by omega) (by omega), Option.bind_some, if_pos rfl, f1, Option.bind_some]; dsimp only
        rw [if_pos rfl, show (2 : Int32) = nI 2 from rfl, (choice_n (n := 2) (by omega) h3).2, show (6 : Int32) = nI 6 from rfl, below_y hp (by omega), Option.bind_some, if_pos rfl, hc.N.1, below_y hn (by omega), Option.bind_some, if_pos rfl, show (3 : Int32) = nI (2 + 1) from rfl, (choice_n (n := 2) (by omega) h3).1]
        exact ⟨_, m1, rfl, rfl, ρ, f2.1, hv, hc⟩
    · obtain ⟨m1, f1, f2⟩ := carry_mn (c := d) hr hv hp h2
      rw [carry_cn hc hp h2, f1]
      exact ⟨_, m1, rfl, rfl, ρ, f2.1, hv, hc⟩
  · unfold fX8_carry fX9_carry
    rw [show (5 : Int32) = nI 5 from rfl, mbelow_n (by omega) h, show (6 : Int32) = nI (5 + 1) from rfl, below_n h]
    exact ⟨_, hm, rfl, rfl, ρ, hr, hv, hc⟩
