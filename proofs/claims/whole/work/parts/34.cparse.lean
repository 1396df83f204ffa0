/-! ===== the class's parsing ===== -/
theorem lpi {α R : Type} {F : Nat → α → Int32 → Option R} (I : Nat → α → Prop) (m : Nat) {post : Option R → Prop} (hx : ∀ n a, I m a → post (F (n + 1) a (nI m))) (hs : ∀ n i a, i < m → I i a → ∃ a', I (i + 1) a' ∧ F (n + 1) a (nI i) = F n a' (nI (i + 1))) : ∀ n i a, i ≤ m → m - i < n → I i a → post (F n a (nI i)) := by
  intro n
  induction n with
  | zero => intro i a hi hn; omega
  | succ n ih =>
    intro i a hi hn ha
    rcases Nat.lt_or_ge i m with h | h
    · obtain ⟨a', h1, h2⟩ := hs n i a h ha
      rw [h2]
      exact ih (i + 1) a' h (by omega) h1
    · have e : i = m := by omega
      subst e
      exact hx n a ha
theorem lpi0 {α R : Type} {F : Nat → α → Int32 → Option R} (I : Nat → α → Prop) (m : Nat) (hm : m ≤ 100) {post : Option R → Prop} {a : α} (h0 : I 0 a) (hx : ∀ n a, I m a → post (F (n + 1) a (nI m))) (hs : ∀ n i a, i < m → I i a → ∃ a', I (i + 1) a' ∧ F (n + 1) a (nI i) = F n a' (nI (i + 1))) : post (F fd_fu a 0) := lpi I m hx hs fd_fu 0 a (Nat.zero_le m) (by have := fu_ge; omega) h0
def sp_lfI (k : Nat) : Int32 := if k = 1 then -3 else if k = 2 then 2 else if k = 3 then 4 else 0
theorem lift_eq {k : Nat} (hk : k ≤ 3) : fX2_liftOf (nI k) = some (sp_lfI k) := by
  rcases (show k = 0 ∨ k = 1 ∨ k = 2 ∨ k = 3 by omega) with rfl | rfl | rfl | rfl <;> rfl
theorem kindW {b : Nat} (h : b = 104 ∨ b = 111 ∨ b = 115 ∨ b = 119) : fX8_kindOf (nI b) = some (nI (sp_kdN b)) := by
  rcases h with rfl | rfl | rfl | rfl <;> rfl
theorem min_nI {a b : Nat} (ha : a < 2147483648) (hb : b < 2147483648) : fd_min (nI a) (nI b) = nI (if b < a then b else a) := by
  unfold fd_min
  by_cases h : b < a
  · rw [if_pos (nI_lt h ha), if_pos h]
  · rw [if_neg (nI_nlt (by omega) hb), if_neg h]
theorem max_nI {a b : Nat} (ha : a < 2147483648) (hb : b < 2147483648) : fd_max (nI a) (nI b) = nI (if a < b then b else a) := by
  unfold fd_max
  by_cases h : a < b
  · rw [if_pos (nI_lt h hb), if_pos h]
  · rw [if_neg (nI_nlt (by omega) ha), if_neg h]
def cx_P (h ρ : fd_H) : Prop := h.1 12 3 = nI (sp_P ρ) ∧ ∀ p, p < sp_P ρ → h.1 14 p = nI (sp_ht ρ p) ∧ h.1 16 p = nI (sp_kd ρ p) ∧ h.1 18 p = sp_lfI (sp_kd ρ p) - nI (sp_ht ρ p)
def cx_N (h ρ : fd_H) : Prop := h.1 11 5 = nI (sp_N ρ) ∧ ∀ n, n < sp_N ρ → h.1 41 n = nI (sp_wm ρ n)
def cx_D (h ρ : fd_H) : Prop := h.1 48 1 = nI (sp_D ρ) ∧ ∀ d, d < sp_D ρ → ∀ j, j < 5 → h.1 50 (5 * d + j) = nI (sp_f ρ d j)
set_option maxHeartbeats 1000000 in
theorem parseP {h ρ : fd_H} {a : Int32} (hv : sp_V1 ρ) (hT : cx_T h ρ) (ha : a = if sp_well ρ 0 = true then nI (sp_tl ρ 0) else 0) : ∃ h', fX2_parse 2 23 a h = some h' ∧ h'.2 = h.2 ∧ (∀ x y, ¬ (x = 12 ∧ y = 3) → x ≠ 14 → x ≠ 16 → x ≠ 18 → h'.1 x y = h.1 x y) ∧ cx_P h' ρ := by
  obtain ⟨v1, v2, v3⟩ := hv 0 (by omega)
  obtain ⟨-, -, c3⟩ := hT 0 (by omega)
  have v2 : sp_tl ρ 0 ≤ 23 := v2
  have hP := P_le hv
  have e : fd_min ((a + 1) / 3) 8 = nI (sp_P ρ) := by
    rw [ha]
    unfold sp_P
    by_cases hw : sp_well ρ 0 = true
    · rw [if_pos hw, if_pos hw, nI_1, show (3 : Int32) = nI 3 from rfl, pk_div (by omega) (by omega) (by omega), show (8 : Int32) = nI 8 from rfl, min_nI (by omega) (by omega), if_neg (by omega)]
    · rw [if_neg hw, if_neg hw]; rfl
  unfold fX2_parse
  rw [e, fd_lt]
  refine lpi0 (F := fun n h i => fX2_parse_L16 2 23 a n i h) (fun i g => g.2 = h.2 ∧ (∀ x y, ¬ (x = 12 ∧ y = 3) → x ≠ 14 → x ≠ 16 → x ≠ 18 → g.1 x y = h.1 x y) ∧ g.1 12 3 = nI (sp_P ρ) ∧ ∀ p, p < i → g.1 14 p = nI (sp_ht ρ p) ∧ g.1 16 p = nI (sp_kd ρ p) ∧ g.1 18 p = sp_lfI (sp_kd ρ p) - nI (sp_ht ρ p)) (sp_P ρ) (by omega) (post := fun r => ∃ h', r = some h' ∧ h'.2 = h.2 ∧ (∀ x y, ¬ (x = 12 ∧ y = 3) → x ≠ 14 → x ≠ 16 → x ≠ 18 → h'.1 x y = h.1 x y) ∧ cx_P h' ρ) ?_ ?_ ?_
  · exact ⟨rfl, fun x y h1 _ _ _ => ui_g h1, ui_s, fun p hp => absurd hp (Nat.not_lt_zero p)⟩
  · intro n g ⟨g1, g2, g3, g4⟩
    refine ⟨g, ?_, g1, g2, g3, g4⟩
    rw [fX2_parse_L16]; dsimp only
    rw [g3, if_pos (nI_le (Nat.le_refl _) (by omega))]
  · intro n i g hi ⟨g1, g2, g3, g4⟩
    have r1 := ht_rng hi
    have r2 := kd_rng hi
    have hb := (P_in hi).2
    have b1 : ∀ q : fd_H, (∀ x, x < sp_tl ρ 0 → q.1 4 x = g.1 4 x) → fX3_at 3 23 (3 * nI i) q = some (nI (sp_by ρ 0 (3 * i))) := by
      intro q hq
      rw [show (3 : Int32) = nI 3 from rfl, pk_mul, at_in (by omega) (by omega), hq _ (by omega), g2 _ _ (by omega) (by omega) (by omega) (by omega), c3 (3 * i) (by omega)]
    have b2 : ∀ q : fd_H, (∀ x, x < sp_tl ρ 0 → q.1 4 x = g.1 4 x) → fX3_at 3 23 (3 * nI i + 1) q = some (nI (sp_by ρ 0 (3 * i + 1))) := by
      intro q hq
      rw [show (3 : Int32) = nI 3 from rfl, pk_mul, nI_1, at_in (by omega) (by omega), hq _ (by omega), g2 _ _ (by omega) (by omega) (by omega) (by omega), c3 (3 * i + 1) (by omega)]
    refine ⟨fd_ui (fd_ui (fd_ui g 14 i (nI (sp_ht ρ i))) 16 i (nI (sp_kd ρ i))) 18 i (sp_lfI (sp_kd ρ i) - nI (sp_ht ρ i)), ⟨g1, ?_, ?_, ?_⟩, ?_⟩
    · intro x y h1 h2 h3 h4
      rw [ui_g (by omega), ui_g (by omega), ui_g (by omega), g2 x y h1 h2 h3 h4]
    · rw [ui_g (by omega), ui_g (by omega), ui_g (by omega), g3]
    · intro p hp
      rcases Nat.lt_or_ge p i with q | q
      · rw [ui_g (by omega), ui_g (by omega), ui_g (by omega), ui_g (a := 16) (by omega), ui_g (a := 16) (by omega), ui_g (a := 16) (by omega), ui_g (a := 18) (by omega), ui_g (a := 18) (by omega), ui_g (a := 18) (by omega)]
        exact g4 p q
      · have e : p = i := by omega
        subst e
        exact ⟨by rw [ui_g (by omega), ui_g (by omega), ui_s], by rw [ui_g (by omega), ui_s], ui_s⟩
    · rw [fX2_parse_L16]; dsimp only
      rw [g3, if_neg (nI_ge hi (by omega)), b1 g (fun _ _ => rfl), Option.bind_some, show (48 : Int32) = nI 48 from rfl, pk_sub r1.1, set_in (by omega) (by omega), Option.bind_some, b2 _ (fun x _ => ui_g (by omega)), Option.bind_some, kindW r2, Option.bind_some, set_in (by omega) (by omega), Option.bind_some, at_in (by omega) (by omega), ui_s, Option.bind_some]
      rw [show nI (sp_kdN (sp_by ρ 0 (3 * i + 1))) = nI (sp_kd ρ i) from rfl, lift_eq kd_le, Option.bind_some, at_in (by omega) (by omega), ui_g (by omega), ui_s, Option.bind_some, set_in (by omega) (by omega), Option.bind_some, nI_1]
      rfl
theorem parseN {h ρ : fd_H} {a : Int32} (hv : sp_V1 ρ) (hT : cx_T h ρ) (ha : a = if sp_well ρ 1 = true then nI (sp_tl ρ 1) else 0) : ∃ h', fX7_parse 5 40 a h = some h' ∧ h'.2 = h.2 ∧ (∀ x y, ¬ (x = 11 ∧ y = 5) → x ≠ 41 → h'.1 x y = h.1 x y) ∧ cx_N h' ρ := by
  obtain ⟨v1, v2, v3⟩ := hv 1 (by omega)
  obtain ⟨-, -, c3⟩ := hT 1 (by omega)
  have v2 : sp_tl ρ 1 ≤ 40 := v2
  have hN := N_le hv
  have e : fd_min a 40 = nI (sp_N ρ) := by
    rw [ha]
    unfold sp_N
    by_cases hw : sp_well ρ 1 = true
    · rw [if_pos hw, if_pos hw, show (40 : Int32) = nI 40 from rfl, min_nI (by omega) (by omega), if_neg (by omega)]
    · rw [if_neg hw, if_neg hw]; rfl
  unfold fX7_parse
  rw [e, fd_lt]
  refine lpi0 (F := fun n h i => fX7_parse_L12 5 40 a n i h) (fun i g => g.2 = h.2 ∧ (∀ x y, ¬ (x = 11 ∧ y = 5) → x ≠ 41 → g.1 x y = h.1 x y) ∧ g.1 11 5 = nI (sp_N ρ) ∧ ∀ n, n < i → g.1 41 n = nI (sp_wm ρ n)) (sp_N ρ) (by omega) (post := fun r => ∃ h', r = some h' ∧ h'.2 = h.2 ∧ (∀ x y, ¬ (x = 11 ∧ y = 5) → x ≠ 41 → h'.1 x y = h.1 x y) ∧ cx_N h' ρ) ?_ ?_ ?_
  · exact ⟨rfl, fun x y h1 _ => ui_g h1, ui_s, fun p hp => absurd hp (Nat.not_lt_zero p)⟩
  · intro n g ⟨g1, g2, g3, g4⟩
    refine ⟨g, ?_, g1, g2, g3, g4⟩
    rw [fX7_parse_L12]; dsimp only
    rw [g3, if_pos (nI_le (Nat.le_refl _) (by omega))]
  · intro n i g hi ⟨g1, g2, g3, g4⟩
    have r1 := wm_rng hi
    have hb := (N_in hi).2
    refine ⟨fd_ui g 41 i (nI (sp_wm ρ i)), ⟨g1, ?_, ?_, ?_⟩, ?_⟩
    · intro x y h1 h2
      rw [ui_g (by omega), g2 x y h1 h2]
    · rw [ui_g (by omega), g3]
    · intro p hp
      rcases Nat.lt_or_ge p i with q | q
      · rw [ui_g (by omega)]; exact g4 p q
      · have e : p = i := by omega
        subst e
        exact ui_s
    · rw [fX7_parse_L12]; dsimp only
      rw [g3, if_neg (nI_ge hi (by omega)), at_in (by omega) (by omega), g2 _ _ (by omega) (by omega), c3 i hb, Option.bind_some, show (97 : Int32) = nI 97 from rfl, pk_sub r1.1, set_in (by omega) (by omega), Option.bind_some, nI_1]
      rfl
theorem two_eq {h ρ : fd_H} {i : Nat} (h1 : h.1 10 i = nI (sp_by ρ 2 i)) (h2 : h.1 10 (i + 1) = nI (sp_by ρ 2 (i + 1))) (r1 : 48 ≤ sp_by ρ 2 i) (r2 : 48 ≤ sp_by ρ 2 (i + 1)) (hi : i + 1 < 71) : fX0_twoFigures 8 71 (nI i) h = some (nI (sp_two ρ i)) := by
  unfold fX0_twoFigures
  rw [at_in (by omega) (by omega), Option.bind_some, nI_1, at_in hi (by omega), Option.bind_some, h1, h2, show (48 : Int32) = nI 48 from rfl, pk_sub r1, show (10 : Int32) = nI 10 from rfl, pk_mul, nI_add, pk_sub (by omega)]
  unfold sp_two
  rw [show 10 * (sp_by ρ 2 i - 48) + sp_by ρ 2 (i + 1) - 48 = 10 * (sp_by ρ 2 i - 48) + (sp_by ρ 2 (i + 1) - 48) by omega]
theorem note_eq {h : fd_H} {d j : Nat} {v : Int32} (hd : d < 9) (hj : j < 5) : fX0_note (nI d) (nI j) v h = some (fd_ui h 50 (5 * d + j) v) := by
  unfold fX0_note
  have e : (5 : Int32) * nI d + nI j = nI (5 * d + j) := by
    rw [show (5 : Int32) = nI 5 from rfl, pk_mul, nI_add]
  rw [e, set_in (by omega) (by omega)]
  rfl
set_option maxHeartbeats 2000000 in
theorem parseD {h ρ : fd_H} {a : Int32} (hv : sp_V1 ρ) (hT : cx_T h ρ) (ha : a = if sp_well ρ 2 = true then nI (sp_tl ρ 2) else 0) : ∃ h', fX0_parse 8 71 a h = some h' ∧ h'.2 = h.2 ∧ (∀ x y, ¬ (x = 48 ∧ y = 1) → x ≠ 50 → h'.1 x y = h.1 x y) ∧ cx_D h' ρ := by
  obtain ⟨v1, v2, v3⟩ := hv 2 (by omega)
  obtain ⟨-, -, c3⟩ := hT 2 (by omega)
  have v2 : sp_tl ρ 2 ≤ 71 := v2
  have hN := D_le hv
  have e : fd_min ((a + 1) / 8) 9 = nI (sp_D ρ) := by
    rw [ha]
    unfold sp_D
    by_cases hw : sp_well ρ 2 = true
    · rw [if_pos hw, if_pos hw, nI_1, show (8 : Int32) = nI 8 from rfl, pk_div (by omega) (by omega) (by omega), show (9 : Int32) = nI 9 from rfl, min_nI (by omega) (by omega), if_neg (by omega)]
    · rw [if_neg hw, if_neg hw]; rfl
  unfold fX0_parse
  rw [e, fd_lt]
  refine lpi0 (F := fun n h i => fX0_parse_L17 8 71 a n i h) (fun i g => g.2 = h.2 ∧ (∀ x y, ¬ (x = 48 ∧ y = 1) → x ≠ 50 → g.1 x y = h.1 x y) ∧ g.1 48 1 = nI (sp_D ρ) ∧ ∀ d, d < i → ∀ j, j < 5 → g.1 50 (5 * d + j) = nI (sp_f ρ d j)) (sp_D ρ) (by omega) (post := fun r => ∃ h', r = some h' ∧ h'.2 = h.2 ∧ (∀ x y, ¬ (x = 48 ∧ y = 1) → x ≠ 50 → h'.1 x y = h.1 x y) ∧ cx_D h' ρ) ?_ ?_ ?_
  · exact ⟨rfl, fun x y h1 _ => ui_g h1, ui_s, fun p hp => absurd hp (Nat.not_lt_zero p)⟩
  · intro n g ⟨g1, g2, g3, g4⟩
    refine ⟨g, ?_, g1, g2, g3, g4⟩
    rw [fX0_parse_L17]; dsimp only
    rw [g3, if_pos (nI_le (Nat.le_refl _) (by omega))]
  · intro n i g hi ⟨g1, g2, g3, g4⟩
    have r0 := d0_rng hi
    have r1 := d1_rng hi
    have r2 := d2_rng hi
    have r3 := d3_rng hi
    have r4 := d4_rng hi
    have r5 := d5_rng hi
    have r6 := d6_rng hi
    have hb := (D_in hi).2
    have by0 : ∀ (q : fd_H) (x : Nat), x < sp_tl ρ 2 → (∀ y, q.1 10 y = g.1 10 y) → q.1 10 x = nI (sp_by ρ 2 x) := by
      intro q x hx hq
      rw [hq, g2 _ _ (by omega) (by omega), c3 x hx]
    have e8 : (8 : Int32) * nI i = nI (8 * i) := by rw [show (8 : Int32) = nI 8 from rfl, pk_mul]
    have k1 : nI (8 * i) + 1 = nI (8 * i + 1) := nI_add _ 1
    have k2 : nI (8 * i) + 2 = nI (8 * i + 2) := nI_add _ 2
    have k4 : nI (8 * i) + 4 = nI (8 * i + 4) := nI_add _ 4
    have k5 : nI (8 * i) + 5 = nI (8 * i + 5) := nI_add _ 5
    refine ⟨fd_ui (fd_ui (fd_ui (fd_ui (fd_ui g 50 (5 * i + 0) (nI (sp_f ρ i 0))) 50 (5 * i + 1) (nI (sp_f ρ i 1))) 50 (5 * i + 2) (nI (sp_f ρ i 2))) 50 (5 * i + 3) (nI (sp_f ρ i 3))) 50 (5 * i + 4) (nI (sp_f ρ i 4)), ⟨g1, ?_, ?_, ?_⟩, ?_⟩
    · intro x y h1 h2
      rw [ui_g (by omega), ui_g (by omega), ui_g (by omega), ui_g (by omega), ui_g (by omega), g2 x y h1 h2]
    · rw [ui_g (by omega), ui_g (by omega), ui_g (by omega), ui_g (by omega), ui_g (by omega), g3]
    · intro p hp j hj
      rcases Nat.lt_or_ge p i with q | q
      · rw [ui_g (by omega), ui_g (by omega), ui_g (by omega), ui_g (by omega), ui_g (by omega)]
        exact g4 p q j hj
      · have e : p = i := by omega
        subst e
        rcases (show j = 0 ∨ j = 1 ∨ j = 2 ∨ j = 3 ∨ j = 4 by omega) with rfl | rfl | rfl | rfl | rfl
        · rw [ui_g (by omega), ui_g (by omega), ui_g (by omega), ui_g (by omega), ui_s]
        · rw [ui_g (by omega), ui_g (by omega), ui_g (by omega), ui_s]
        · rw [ui_g (by omega), ui_g (by omega), ui_s]
        · rw [ui_g (by omega), ui_s]
        · rw [ui_s]
    · rw [fX0_parse_L17]; dsimp only
      rw [g3, if_neg (nI_ge hi (by omega)), e8, fd_lt]
      rw [at_in (by omega) (by omega), by0 g _ (by omega) (fun _ => rfl), Option.bind_some, show (97 : Int32) = nI 97 from rfl, pk_sub r0.1, show (0 : Int32) = nI 0 from rfl, note_eq (by omega) (by omega), Option.bind_some]
      rw [k1, at_in (by omega) (by omega), by0 _ _ (by omega) (fun _ => ui_g (by omega)), Option.bind_some, pk_sub r1.1, show (1 : Int32) = nI 1 from rfl, note_eq (by omega) (by omega), Option.bind_some]
      rw [k2, two_eq (by0 _ _ (by omega) (fun _ => by rw [ui_g (by omega), ui_g (by omega)])) (by0 _ _ (by omega) (fun _ => by rw [ui_g (by omega), ui_g (by omega)])) r2.1 r3.1 (by omega), Option.bind_some, show (2 : Int32) = nI 2 from rfl, note_eq (by omega) (by omega), Option.bind_some]
      rw [k4, at_in (by omega) (by omega), by0 _ _ (by omega) (fun _ => by rw [ui_g (by omega), ui_g (by omega), ui_g (by omega)]), Option.bind_some, show (48 : Int32) = nI 48 from rfl, pk_sub r4.1, show (3 : Int32) = nI 3 from rfl, note_eq (by omega) (by omega), Option.bind_some]
      rw [k5, two_eq (by0 _ _ (by omega) (fun _ => by rw [ui_g (by omega), ui_g (by omega), ui_g (by omega), ui_g (by omega)])) (by0 _ _ (by omega) (fun _ => by rw [ui_g (by omega), ui_g (by omega), ui_g (by omega), ui_g (by omega)])) r5.1 r6.1 (by omega), Option.bind_some, show (4 : Int32) = nI 4 from rfl, note_eq (by omega) (by omega), Option.bind_some, nI_add]
      rfl
