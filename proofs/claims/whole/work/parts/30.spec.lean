/-! ===== pure part: numbers, loops, the spec (over the model's raw heap ρ) ===== -/
theorem nI_0' : (0 : Int32) = nI 0 := rfl
theorem fu_ge : 150 < fd_fu := by decide
/-- a loop with a counter that goes up -/
theorem lp {α R : Type} {F : Nat → α → Int32 → Option R} (st : Nat → α) (m : Nat) {res : Option R} (hx : ∀ n, F (n + 1) (st m) (nI m) = res) (hs : ∀ n i, i < m → F (n + 1) (st i) (nI i) = F n (st (i + 1)) (nI (i + 1))) : ∀ i n, i ≤ m → m - i < n → F n (st i) (nI i) = res := by
  intro i n hi hn
  induction n generalizing i with
  | zero => omega
  | succ n ih =>
    rcases Nat.lt_or_ge i m with h | h
    · rw [hs n i h]
      exact ih (i + 1) h (by omega)
    · have e : i = m := by omega
      subst e
      exact hx n
theorem lp0 {α R : Type} {F : Nat → α → Int32 → Option R} (st : Nat → α) (m : Nat) (hm : m ≤ 100) {res : Option R} (hx : ∀ n, F (n + 1) (st m) (nI m) = res) (hs : ∀ n i, i < m → F (n + 1) (st i) (nI i) = F n (st (i + 1)) (nI (i + 1))) : F fd_fu (st 0) (nI 0) = res := lp st m hx hs 0 fd_fu (Nat.zero_le m) (by have := fu_ge; omega)
/-- a loop that may stop early -/
def sp_srch {R : Type} (stop : Nat → Bool) (r : Nat → R) (res : R) : Nat → Nat → R
  | 0, _ => res
  | d + 1, i => if stop i = true then r i else sp_srch stop r res d (i + 1)
theorem lpe {α R : Type} {F : Nat → α → Int32 → R} (st : Nat → α) (m : Nat) {res : R} (stop : Nat → Bool) (r : Nat → R) (hx : ∀ n, F (n + 1) (st m) (nI m) = res) (hs : ∀ n i, i < m → F (n + 1) (st i) (nI i) = if stop i = true then r i else F n (st (i + 1)) (nI (i + 1))) : ∀ d i n, i + d = m → d < n → F n (st i) (nI i) = sp_srch stop r res d i := by
  intro d
  induction d with
  | zero =>
    intro i n hi hn
    obtain ⟨k, rfl⟩ : ∃ k, n = k + 1 := ⟨n - 1, by omega⟩
    have e : i = m := by omega
    subst e
    exact hx k
  | succ d ih =>
    intro i n hi hn
    obtain ⟨k, rfl⟩ : ∃ k, n = k + 1 := ⟨n - 1, by omega⟩
    rw [hs k i (by omega)]
    unfold sp_srch
    rw [ih (i + 1) k (by omega) (by omega)]
theorem srch_no {R : Type} {stop : Nat → Bool} {r : Nat → R} {res : R} : ∀ d i, (∀ j, i ≤ j → j < i + d → stop j = false) → sp_srch stop r res d i = res
  | 0, _, _ => rfl
  | d + 1, i, h => by
    unfold sp_srch
    rw [if_neg (by rw [h i (Nat.le_refl i) (by omega)]; decide)]
    exact srch_no d (i + 1) (fun j h1 h2 => h j (by omega) (by omega))
theorem srch_at {R : Type} {stop : Nat → Bool} {r : Nat → R} {res : R} {k : Nat} (hk : stop k = true) : ∀ d i, i ≤ k → k < i + d → (∀ j, i ≤ j → j < k → stop j = false) → sp_srch stop r res d i = r k
  | 0, i, h1, h2, _ => by omega
  | d + 1, i, h1, h2, h => by
    unfold sp_srch
    rcases Nat.lt_or_ge i k with q | q
    · rw [if_neg (by rw [h i (Nat.le_refl i) q]; decide)]
      exact srch_at hk d (i + 1) q (by omega) (fun j h1 h2 => h j (by omega) h2)
    · have e : i = k := by omega
      subst e
      rw [if_pos hk]
/-- the first place below n where q holds, else n -/
def sp_fs (q : Nat → Bool) : Nat → Nat
  | 0 => 0
  | n + 1 => if sp_fs q n < n then sp_fs q n else if q n = true then n else n + 1
theorem fs_le (q : Nat → Bool) : ∀ n, sp_fs q n ≤ n
  | 0 => Nat.le_refl 0
  | n + 1 => by
    have ih := fs_le q n
    unfold sp_fs
    by_cases h : sp_fs q n < n
    · rw [if_pos h]; omega
    · rw [if_neg h]
      by_cases h2 : q n = true
      · rw [if_pos h2]; omega
      · rw [if_neg h2]; exact Nat.le_refl _
theorem fs_no (q : Nat → Bool) : ∀ n k, k < sp_fs q n → q k = false
  | 0, k, h => absurd h (Nat.not_lt_zero k)
  | n + 1, k, h => by
    have ih := fs_no q n
    have hl := fs_le q n
    unfold sp_fs at h
    by_cases h1 : sp_fs q n < n
    · rw [if_pos h1] at h; exact ih k h
    · rw [if_neg h1] at h
      have he : sp_fs q n = n := by omega
      by_cases h2 : q n = true
      · rw [if_pos h2] at h; exact ih k (by omega)
      · rw [if_neg h2] at h
        rcases Nat.lt_or_ge k n with h3 | h3
        · exact ih k (by omega)
        · have : k = n := by omega
          subst this
          cases hq : q k
          · rfl
          · exact absurd hq h2
theorem fs_yes (q : Nat → Bool) : ∀ n, sp_fs q n < n → q (sp_fs q n) = true
  | 0, h => absurd h (Nat.not_lt_zero _)
  | n + 1, h => by
    have ih := fs_yes q n
    unfold sp_fs at h ⊢
    by_cases h1 : sp_fs q n < n
    · rw [if_pos h1]; exact ih h1
    · rw [if_neg h1] at h ⊢
      by_cases h2 : q n = true
      · rw [if_pos h2]; exact h2
      · rw [if_neg h2] at h; omega
theorem fs_eq {q : Nat → Bool} {n k : Nat} (hk : k < n) (h1 : q k = true) (h2 : ∀ j, j < k → q j = false) : sp_fs q n = k := by
  rcases Nat.lt_trichotomy (sp_fs q n) k with h | h | h
  · have := fs_yes q n (by omega)
    rw [h2 _ h] at this; cases this
  · exact h
  · have := fs_no q n k h
    rw [h1] at this; cases this
theorem fs_none {q : Nat → Bool} {n : Nat} (h : ∀ j, j < n → q j = false) : sp_fs q n = n := by
  have hl := fs_le q n
  rcases Nat.lt_or_ge (sp_fs q n) n with h1 | h1
  · have := fs_yes q n h1
    rw [h _ h1] at this; cases this
  · omega
theorem fs_cong {q r : Nat → Bool} {n : Nat} (h : ∀ j, j < n → q j = r j) : sp_fs q n = sp_fs r n := by
  induction n with
  | zero => rfl
  | succ n ih =>
    unfold sp_fs
    rw [ih (fun j hj => h j (by omega)), h n (Nat.lt_succ_self n)]
def sp_any (q : Nat → Bool) : Nat → Bool
  | 0 => false
  | n + 1 => sp_any q n || q n
theorem any_iff {q : Nat → Bool} : ∀ {n : Nat}, sp_any q n = true ↔ ∃ i, i < n ∧ q i = true
  | 0 => ⟨fun h => Bool.noConfusion (h : false = true), fun ⟨i, h, _⟩ => absurd h (Nat.not_lt_zero i)⟩
  | n + 1 => by
    unfold sp_any
    rw [Bool.or_eq_true, any_iff]
    constructor
    · rintro (⟨i, h1, h2⟩ | h)
      · exact ⟨i, by omega, h2⟩
      · exact ⟨n, by omega, h⟩
    · rintro ⟨i, h1, h2⟩
      rcases Nat.lt_or_ge i n with h | h
      · exact Or.inl ⟨i, h, h2⟩
      · have : i = n := by omega
        subst this; exact Or.inr h2
theorem any_cong {q r : Nat → Bool} : ∀ {n : Nat}, (∀ j, j < n → q j = r j) → sp_any q n = sp_any r n
  | 0, _ => rfl
  | n + 1, h => by
    unfold sp_any
    rw [any_cong (fun j hj => h j (by omega)), h n (Nat.lt_succ_self n)]
/-- or of 1 << k over those k below n with q -/
def sp_or (q : Nat → Bool) : Nat → Int32
  | 0 => 0
  | n + 1 => if q n = true then sp_or q n ||| ((1 : Int32) <<< (nI n &&& 31)) else sp_or q n
theorem or_cong {q r : Nat → Bool} : ∀ {n : Nat}, (∀ j, j < n → q j = r j) → sp_or q n = sp_or r n
  | 0, _ => rfl
  | n + 1, h => by
    unfold sp_or
    rw [or_cong (fun j hj => h j (by omega)), h n (Nat.lt_succ_self n)]
def sp_sum (f : Nat → Nat) : Nat → Nat
  | 0 => 0
  | n + 1 => sp_sum f n + f n
theorem sum_cong {f g : Nat → Nat} : ∀ {n : Nat}, (∀ j, j < n → f j = g j) → sp_sum f n = sp_sum g n
  | 0, _ => rfl
  | n + 1, h => by
    unfold sp_sum
    rw [sum_cong (fun j hj => h j (by omega)), h n (Nat.lt_succ_self n)]
theorem sum_le {f : Nat → Nat} {c : Nat} : ∀ {n : Nat}, (∀ j, j < n → f j ≤ c) → sp_sum f n ≤ n * c
  | 0, _ => Nat.zero_le _
  | n + 1, h => by
    unfold sp_sum
    have h1 := sum_le (n := n) (fun j hj => h j (by omega))
    have h2 := h n (Nat.lt_succ_self n)
    rw [Nat.succ_mul]; omega
/-! the raw part of the model's heap -/
def sp_rc (k j : Nat) : Bool := decide (k = 74 ∨ k = 75 ∨ k = 84 ∨ k = 85 ∨ k = 86 ∨ k = 90 ∨ k = 91 ∨ k = 92 ∨ k = 93 ∨ k = 94 ∨ k = 95 ∨ k = 96) || (decide (k = 73) && decide (j = 13 ∨ j = 21 ∨ j = 30))
def sp_raw (m : fd_H) : fd_H := (fun k j => if sp_rc k j = true then m.1 k j else 0, fun _ _ => 0)
theorem raw_ui {m : fd_H} {k j : Nat} {v : Int32} (h : sp_rc k j = false) : sp_raw (fd_ui m k j v) = sp_raw m := by
  refine Prod.ext (funext fun a => funext fun b => ?_) rfl
  show (if sp_rc a b = true then (fd_ui m k j v).1 a b else 0) = if sp_rc a b = true then m.1 a b else 0
  by_cases hc : sp_rc a b = true
  · rw [if_pos hc, if_pos hc]
    by_cases ha : a = k
    · subst ha
      rw [fd_ui_self]
      by_cases hb : b = j
      · subst hb; rw [hc] at h; cases h
      · rw [pk_un hb]
    · rw [fd_ui_ne a ha]
  · rw [if_neg hc, if_neg hc]
theorem raw_get {m ρ : fd_H} (h : sp_raw m = ρ) (k j : Nat) (hc : sp_rc k j = true) : m.1 k j = ρ.1 k j := by
  rw [← h]
  show m.1 k j = if sp_rc k j = true then m.1 k j else 0
  rw [if_pos hc]
theorem raw_set {m ρ : fd_H} {k j : Nat} {v : Int32} (h : sp_raw m = ρ) (hc : sp_rc k j = true) : sp_raw (fd_ui m k j v) = fd_ui ρ k j v := by
  refine Prod.ext (funext fun a => funext fun b => ?_) (by rw [← h]; rfl)
  show (if sp_rc a b = true then (fd_ui m k j v).1 a b else 0) = (fd_ui ρ k j v).1 a b
  by_cases ha : a = k
  · subst ha
    rw [fd_ui_self, fd_ui_self]
    by_cases hb : b = j
    · subst hb; rw [if_pos hc, pk_us, pk_us]
    · rw [pk_un hb, pk_un hb, ← h]; rfl
  · rw [fd_ui_ne a ha, fd_ui_ne a ha, ← h]; rfl
theorem raw_raw (m : fd_H) : sp_raw (sp_raw m) = sp_raw m := by
  refine Prod.ext (funext fun a => funext fun b => ?_) rfl
  show (if sp_rc a b = true then (if sp_rc a b = true then m.1 a b else 0) else 0) = _
  by_cases hc : sp_rc a b = true
  · rw [if_pos hc, if_pos hc]; show m.1 a b = if sp_rc a b = true then m.1 a b else 0; rw [if_pos hc]
  · rw [if_neg hc]; show 0 = if sp_rc a b = true then m.1 a b else 0; rw [if_neg hc]
theorem ui_g {h : fd_H} {k j a b : Nat} {v : Int32} (n : ¬ (a = k ∧ b = j)) : (fd_ui h k j v).1 a b = h.1 a b := by
  by_cases ha : a = k
  · subst ha
    rw [fd_ui_self, pk_un (fun e => n ⟨rfl, e⟩)]
  · rw [fd_ui_ne a ha]
theorem ui_s {h : fd_H} {k j : Nat} {v : Int32} : (fd_ui h k j v).1 k j = v := by rw [fd_ui_self, pk_us]
theorem ui_2 {h : fd_H} {k j : Nat} {v : Int32} : (fd_ui h k j v).2 = h.2 := rfl
theorem ul_1 {h : fd_H} {k j : Nat} {v : Int64} : (fd_ul h k j v).1 = h.1 := rfl
theorem ul_s {h : fd_H} {k j : Nat} {v : Int64} : (fd_ul h k j v).2 k j = v := by rw [fd_ul_self, pk_uLs]
theorem ul_g {h : fd_H} {k j a b : Nat} {v : Int64} (n : ¬ (a = k ∧ b = j)) : (fd_ul h k j v).2 a b = h.2 a b := by
  by_cases ha : a = k
  · subst ha
    rw [fd_ul_self, pk_uLn (fun e => n ⟨rfl, e⟩)]
  · rw [fd_ul_ne a ha]
/-! texts -/
def sp_cp (t : Nat) : Nat := if t = 0 then 23 else if t = 1 then 40 else 71
def sp_tl (ρ : fd_H) (t : Nat) : Nat := (ρ.1 74 t).toNatClampNeg
def sp_by (ρ : fd_H) (t i : Nat) : Nat := (ρ.1 75 (71 * t + i)).toNatClampNeg
def sp_dig (b c : Nat) : Bool := decide (48 ≤ b) && decide (b ≤ 48 + c)
def sp_fitP (a b : Nat) : Bool := if a = 0 then sp_dig b 9 else if a = 1 then decide (b = 104 ∨ b = 111 ∨ b = 115 ∨ b = 119) else decide (b = 59)
def sp_fitD (a b c : Nat) : Bool := if a ≤ 1 then decide (97 ≤ b) && decide (b ≤ 102) else if a = 2 then sp_dig b 9 else if a = 3 then sp_dig b 9 && !(decide (c = 48) && decide (b = 48)) else if a = 4 then sp_dig b 7 else if a = 5 then sp_dig b 3 else if a = 6 then sp_dig b 9 else decide (b = 59)
def sp_fit (ρ : fd_H) (t i : Nat) : Bool := if t = 0 then sp_fitP (i % 3) (sp_by ρ 0 i) else if t = 1 then decide (97 ≤ sp_by ρ 1 i) && decide (sp_by ρ 1 i ≤ 122) else sp_fitD (i % 8) (sp_by ρ 2 i) (if i = 0 then 0 else sp_by ρ 2 (i - 1))
def sp_bad (ρ : fd_H) (t : Nat) : Nat := sp_fs (fun i => !sp_fit ρ t i) (sp_tl ρ t)
def sp_end (t L : Nat) : Bool := decide (L = 0) || decide (t = 1) || (if t = 0 then decide (L % 3 = 2) else decide (L % 8 = 7))
def sp_well (ρ : fd_H) (t : Nat) : Bool := decide (sp_bad ρ t = sp_tl ρ t) && sp_end t (sp_tl ρ t)
def sp_fault (ρ : fd_H) (t : Nat) : Int32 := if sp_well ρ t = true then -1 else nI (sp_bad ρ t)
def sp_P (ρ : fd_H) : Nat := if sp_well ρ 0 = true then (sp_tl ρ 0 + 1) / 3 else 0
def sp_ht (ρ : fd_H) (p : Nat) : Nat := sp_by ρ 0 (3 * p) - 48
def sp_kdN (b : Nat) : Nat := if b = 111 then 0 else if b = 104 then 1 else if b = 119 then 2 else 3
def sp_kd (ρ : fd_H) (p : Nat) : Nat := sp_kdN (sp_by ρ 0 (3 * p + 1))
def sp_N (ρ : fd_H) : Nat := if sp_well ρ 1 = true then sp_tl ρ 1 else 0
def sp_wm (ρ : fd_H) (n : Nat) : Nat := sp_by ρ 1 n - 97
def sp_D (ρ : fd_H) : Nat := if sp_well ρ 2 = true then (sp_tl ρ 2 + 1) / 8 else 0
def sp_two (ρ : fd_H) (i : Nat) : Nat := 10 * (sp_by ρ 2 i - 48) + (sp_by ρ 2 (i + 1) - 48)
def sp_f (ρ : fd_H) (d j : Nat) : Nat := if j = 0 then sp_by ρ 2 (8 * d) - 97 else if j = 1 then sp_by ρ 2 (8 * d + 1) - 97 else if j = 2 then sp_two ρ (8 * d + 2) else if j = 3 then sp_by ρ 2 (8 * d + 4) - 48 else sp_two ρ (8 * d + 5)
/-! marks, what was seen, sheets -/
def sp_zr (ρ : fd_H) : Nat := (ρ.1 73 13).toNatClampNeg
def sp_mc (ρ : fd_H) (k : Nat) : Nat := (ρ.1 84 k).toNatClampNeg
def sp_mn (ρ : fd_H) (k i : Nat) : Nat := (ρ.1 85 (8 * k + i)).toNatClampNeg
def sp_mp (ρ : fd_H) (k i : Nat) : Nat := (ρ.1 86 (8 * k + i)).toNatClampNeg
def sp_sc (ρ : fd_H) : Nat := (ρ.1 73 21).toNatClampNeg
def sp_sn (ρ : fd_H) (i : Nat) : Nat := (ρ.1 90 i).toNatClampNeg
def sp_sp (ρ : fd_H) (i : Nat) : Nat := (ρ.1 91 i).toNatClampNeg
def sp_si (ρ : fd_H) (i : Nat) : Nat := (ρ.1 92 i).toNatClampNeg
def sp_fo (ρ : fd_H) (s : Nat) : Nat := (ρ.1 94 s).toNatClampNeg
def sp_sz (ρ : fd_H) (s : Nat) : Nat := (ρ.1 95 s).toNatClampNeg
def sp_V1 (ρ : fd_H) : Prop := ∀ t, t < 3 → ρ.1 74 t = nI (sp_tl ρ t) ∧ sp_tl ρ t ≤ sp_cp t ∧ ∀ i, i < sp_tl ρ t → ρ.1 75 (71 * t + i) = nI (sp_by ρ t i) ∧ sp_by ρ t i < 256
def sp_V2 (ρ : fd_H) : Prop := ρ.1 73 13 = nI (sp_zr ρ) ∧ sp_zr ρ ≤ 25 ∧ ∀ k, k < 3 → ρ.1 84 k = nI (sp_mc ρ k) ∧ sp_mc ρ k ≤ 8 ∧ ∀ i, i < sp_mc ρ k → (ρ.1 85 (8 * k + i) = nI (sp_mn ρ k i) ∧ sp_mn ρ k i < 40) ∧ ρ.1 86 (8 * k + i) = nI (sp_mp ρ k i) ∧ sp_mp ρ k i < 8 ∧ (k = 0 → sp_mp ρ k i = 0)
def sp_V3 (ρ : fd_H) : Prop := ρ.1 73 21 = nI (sp_sc ρ) ∧ sp_sc ρ ≤ 8 ∧ ∀ i, i < sp_sc ρ → (ρ.1 90 i = nI (sp_sn ρ i) ∧ sp_sn ρ i < 40) ∧ (ρ.1 91 i = nI (sp_sp ρ i) ∧ sp_sp ρ i < 8) ∧ ρ.1 92 i = nI (sp_si ρ i) ∧ sp_si ρ i < 2
def sp_V4 (ρ : fd_H) : Prop := ∀ s, s < 4 → (ρ.1 93 s = 0 ∨ ρ.1 93 s = 1) ∧ (ρ.1 94 s = nI (sp_fo ρ s) ∧ sp_fo ρ s < 3) ∧ ρ.1 95 s = nI (sp_sz ρ s) ∧ sp_sz ρ s ≤ 48
def sp_V (ρ : fd_H) : Prop := sp_V1 ρ ∧ sp_V2 ρ ∧ sp_V3 ρ ∧ sp_V4 ρ
/-! weather -/
def sp_cl (ρ : fd_H) (n : Nat) : Bool := sp_any (fun i => decide (sp_mn ρ 0 i = n)) (sp_mc ρ 0)
def sp_sm (ρ : fd_H) (n p : Nat) : Bool := sp_any (fun i => decide (sp_mn ρ 1 i = n) && decide (sp_mp ρ 1 i = p)) (sp_mc ρ 1)
def sp_ic (ρ : fd_H) (w n p : Nat) : Bool := sp_any (fun i => decide (sp_mn ρ 2 i = n) && decide (sp_mp ρ 2 i = p) && !decide (i = w)) (sp_mc ρ 2)
def sp_lift (k : Nat) : Int := if k = 1 then -3 else if k = 2 then 2 else if k = 3 then 4 else 0
def sp_wt (ρ : fd_H) (p w : Nat) : Int := (w : Int) - sp_ht ρ p + sp_lift (sp_kd ρ p)
def sp_cold (ρ : fd_H) (n p w : Nat) : Bool := decide (sp_wt ρ p w < sp_zr ρ) && !(decide (sp_kd ρ p = 3) && decide (n < 20))
def sp_fr (ρ : fd_H) (wf : Nat → Nat) (cf : Nat → Bool) (w n p : Nat) : Bool := sp_ic ρ w n p || (!cf n && (sp_cold ρ n p (wf n) && !sp_sm ρ n p))
def sp_first (q : Nat → Bool) (N : Nat) : Nat := if sp_fs q N < N then sp_fs q N else 40
def sp_fi (ρ : fd_H) (wf : Nat → Nat) (cf : Nat → Bool) (w p : Nat) : Nat := sp_first (fun n => sp_fr ρ wf cf w n p) (sp_N ρ)
def sp_fI (k : Nat) : Int32 := if k < 40 then nI k else -1
abbrev sp_f0 (ρ : fd_H) (p : Nat) : Nat := sp_fi ρ (sp_wm ρ) (sp_cl ρ) 8 p
