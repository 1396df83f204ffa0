/-! ===== frost under clouds by chance ===== -/
def sp_pw (c : Nat) : Nat → Int64
  | 0 => 1
  | k + 1 => sp_pw c k * (nI c).toInt64
theorem power_eq {c k : Nat} (hk : k ≤ 100) : fX8_power (nI c) (nI k) = some (sp_pw c k) := by
  refine lp0 (F := fun f (v : Int64) i => fX8_power_L5 (nI c) (nI k) f v i) (fun i => sp_pw c i) k hk ?_ ?_
  · intro f
    show fX8_power_L5 (nI c) (nI k) (f + 1) (sp_pw c k) (nI k) = _
    rw [fX8_power_L5]; dsimp only
    rw [if_pos (nI_le (Nat.le_refl _) (by omega))]
  · intro f i hi
    show fX8_power_L5 (nI c) (nI k) (f + 1) (sp_pw c i) (nI i) = fX8_power_L5 (nI c) (nI k) f (sp_pw c i * (nI c).toInt64) (nI (i + 1))
    rw [fX8_power_L5]; dsimp only
    rw [if_neg (nI_ge hi (by omega)), fd_lt, nI_1]
def sp_lt (c k w : Nat) : Int64 := (fX8_lowestTerm (sp_pw 16 k - sp_pw c k) (sp_pw 16 k) (nI w)).getD 0
theorem low_tab : ∀ k, k < 13 → ∀ c, c < 17 → ∀ w, w < 2 → fX9_lowest (sp_pw 16 k - sp_pw c k) (sp_pw 16 k) (nI w) = some (sp_lt c k w) ∧ fX8_lowestTerm (sp_pw 16 k - sp_pw c k) (sp_pw 16 k) (nI w) = some (sp_lt c k w) := by decide +kernel
theorem low_one : ∀ k, k < 13 → ∀ w, w < 2 → fX9_lowest (sp_pw 16 k - 0) (sp_pw 16 k) (nI w) = some 1 := by decide +kernel
def sp_cq2 (ρ : fd_H) (p i : Nat) : Bool := sp_cold ρ i p (sp_wm ρ i) && !sp_sm ρ i p
def sp_ch (ρ : fd_H) (c p n w : Nat) : Int64 := if sp_first (fun i => sp_ic ρ 8 i p) (sp_N ρ) ≤ n then 1 else sp_lt c (sp_ct (sp_cq2 ρ p) (min (sp_N ρ) (n + 1))) w
theorem b_sh : ∀ A B S U : Bool, ((A && B && !S) && U) = ((A && U) && (B && !S)) := by decide
theorem chance_c {h ρ : fd_H} {c p n w : Nat} (hv : sp_V ρ) (cx : CX h ρ) (hc : c < 17) (hp : p < sp_P ρ) (hn : n < 12) (hw : w < 2) : fX8_chance (nI c) (nI p) (nI n) (nI w) h = some (sp_ch ρ c p n w) := by
  have hb := P_le hv.1
  have hN := N_le hv.1
  unfold fX8_chance sp_ch
  rw [if_neg (nI_pos (by omega)), show (16 : Int32) = nI 16 from rfl, if_neg (nI_nlt (by omega) (by omega)), has_y cx.P.1 hp (by omega), Option.bind_some, if_pos rfl, show (12 : Int32) = nI 12 from rfl, below_y hn (by omega), Option.bind_some, if_pos rfl, show (2 : Int32) = nI 2 from rfl, below_y hw (by omega), Option.bind_some, if_pos rfl, isBy_eq (N := sp_N ρ) (q := fun i => sp_ic ρ 8 i p) (by omega) (by omega) hN (fun i hi => (cx.W.2 p hp i hi).2.1), Option.bind_some]
  by_cases z : sp_first (fun i => sp_ic ρ 8 i p) (sp_N ρ) ≤ n
  · rw [if_pos z, decide_eq_true z, if_pos rfl]
  · obtain ⟨x, e1, e2⟩ := frost_eq (cy := 0) (iy := 0) hv.1 hv.2.1 cx.M cx.P cx.N hp (fun i hi => (cx.W.2 p hp i hi).1)
    have l := ct_le (sp_cq2 ρ p) (min (sp_N ρ) (n + 1))
    unfold fX8_bitsUpTo
    rw [if_neg z, decide_eq_false z, if_neg (by decide), e1, Option.bind_some, Option.bind_some, bitCount_ct (q := sp_cq2 ρ p) (K := min (sp_N ρ) (n + 1)) (by omega) (fun i hi => by
      rw [gb_and, e2 i hi, gb_0, upto_tab n (by omega) i hi, Bool.or_false, Bool.false_or, b_sh, min_dec]; rfl), Option.bind_some, power_eq (by omega), Option.bind_some, power_eq (by omega), Option.bind_some, Option.bind_some, (low_tab _ (by omega) c hc w hw).2]
    rfl
theorem chance_step {m ρ : fd_H} {p n t : Nat} {a b : Int32} (hv : sp_V ρ) (h1 : mt m ρ (sp_wm ρ) (sp_cl ρ) 8) (hp : p < sp_P ρ) (hn : n < 12) (ht : t < min (sp_N ρ) (n + 1)) (f : Nat) (v5 v7 : Int64) : fX9_chanceOf_L13 a (nI p) (nI n) b (f + 1) v5 v7 (nI t) m = fX9_chanceOf_L13 a (nI p) (nI n) b f (if sp_ic ρ 8 t p = true then 0 else if sp_cq2 ρ p t = true then v5 * a.toInt64 else v5) (if sp_ic ρ 8 t p = true then v7 else if sp_cq2 ρ p t = true then v7 * 16 else v7) (nI (t + 1)) m := by
  have hb := P_le hv.1
  have hN := N_le hv.1
  unfold sp_cq2
  rw [fX9_chanceOf_L13]; dsimp only
  rw [if_neg (nI_nlt (by omega) (by omega)), h1.2.2.1.1, if_neg (nI_ge (by omega) (by omega)), show (2 : Int32) = nI 2 from rfl, isTold_eq h1.1 hv.2.1 h1.2.2.2.2.2 (by omega) (by omega) (by omega), told2, Option.bind_some, mcold_eq hv.1 hv.2.1 h1 (by omega) hp (wm_le (by omega)), Option.bind_some, nI_1, fd_lt, fd_lt]
  cases sp_ic ρ 8 t p <;> cases (sp_cold ρ t p (sp_wm ρ t) && !sp_sm ρ t p) <;> rfl
def sp_g2 (ρ : fd_H) (p i : Nat) : Bool := !sp_ic ρ 8 i p && sp_cq2 ρ p i
def sp_v5 (ρ : fd_H) (c p t : Nat) : Int64 := if sp_any (fun i => sp_ic ρ 8 i p) t = true then 0 else sp_pw c (sp_ct (sp_g2 ρ p) t)
theorem chance_in {m ρ : fd_H} {c p n : Nat} {b : Int32} (hv : sp_V ρ) (h1 : mt m ρ (sp_wm ρ) (sp_cl ρ) 8) (hp : p < sp_P ρ) (hn : n < 12) : fX9_chanceOf_L13 (nI c) (nI p) (nI n) b fd_fu 1 1 0 m = fX9_chanceOf_L76 (nI c) (nI p) (nI n) b (sp_v5 ρ c p (min (sp_N ρ) (n + 1))) (sp_pw 16 (sp_ct (sp_g2 ρ p) (min (sp_N ρ) (n + 1)))) m := by
  have hN := N_le hv.1
  refine lp0 (F := fun f (v : Int64 × Int64) i => fX9_chanceOf_L13 (nI c) (nI p) (nI n) b f v.1 v.2 i m) (fun t => (sp_v5 ρ c p t, sp_pw 16 (sp_ct (sp_g2 ρ p) t))) (min (sp_N ρ) (n + 1)) (by omega) ?_ ?_
  · intro f
    show fX9_chanceOf_L13 (nI c) (nI p) (nI n) b (f + 1) (sp_v5 ρ c p (min (sp_N ρ) (n + 1))) (sp_pw 16 (sp_ct (sp_g2 ρ p) (min (sp_N ρ) (n + 1)))) (nI (min (sp_N ρ) (n + 1))) m = _
    rw [fX9_chanceOf_L13]; dsimp only
    by_cases c1 : n < min (sp_N ρ) (n + 1)
    · rw [if_pos (nI_lt c1 (by omega))]
    · rw [if_neg (nI_nlt (by omega) (by omega)), h1.2.2.1.1, if_pos (nI_le (by omega) (by omega))]
  · intro f t ht
    show fX9_chanceOf_L13 (nI c) (nI p) (nI n) b (f + 1) (sp_v5 ρ c p t) (sp_pw 16 (sp_ct (sp_g2 ρ p) t)) (nI t) m = fX9_chanceOf_L13 (nI c) (nI p) (nI n) b f (sp_v5 ρ c p (t + 1)) (sp_pw 16 (sp_ct (sp_g2 ρ p) (t + 1))) (nI (t + 1)) m
    rw [chance_step hv h1 hp hn ht]
    have ea : sp_any (fun i => sp_ic ρ 8 i p) (t + 1) = (sp_any (fun i => sp_ic ρ 8 i p) t || sp_ic ρ 8 t p) := rfl
    unfold sp_v5
    rw [ea]
    cases y : sp_ic ρ 8 t p
    · cases w : sp_cq2 ρ p t
      · have g : sp_g2 ρ p t = false := by unfold sp_g2; rw [w, Bool.and_false]
        rw [ct_s0 g, Bool.or_false]; rfl
      · have g : sp_g2 ρ p t = true := by unfold sp_g2; rw [w, y]; rfl
        rw [ct_s1 g, Bool.or_false]
        cases sp_any (fun i => sp_ic ρ 8 i p) t
        · rfl
        · simp only [Bool.false_eq_true, ↓reduceIte, Int64.zero_mul]; rfl
    · have g : sp_g2 ρ p t = false := by unfold sp_g2; rw [y]; rfl
      rw [ct_s0 g, Bool.or_true]; rfl
theorem chanceOf_eq {m ρ : fd_H} {c p n w : Nat} (hr : sp_raw m = ρ) (hv : sp_V ρ) (hc : c < 17) (hp : p < sp_P ρ) (hn : n < 12) (hw : w < 2) : ∃ m', fX9_chanceOf (nI c) (nI p) (nI n) (nI w) m = some (sp_ch ρ c p n w, m') ∧ mt m' ρ (sp_wm ρ) (sp_cl ρ) 8 := by
  have hN := N_le hv.1
  obtain ⟨m1, e1, h1⟩ := asTold_eq hr hv.1 hv.2.1
  refine ⟨m1, ?_, h1⟩
  have l := ct_le (sp_g2 ρ p) (min (sp_N ρ) (n + 1))
  unfold fX9_chanceOf
  rw [e1, Option.bind_some, chance_in hv h1 hp hn]
  unfold fX9_chanceOf_L76 sp_v5 sp_ch
  cases y : sp_any (fun i => sp_ic ρ 8 i p) (min (sp_N ρ) (n + 1))
  · have z : ¬ sp_first (fun i => sp_ic ρ 8 i p) (sp_N ρ) ≤ n := fun z => by
      rw [first_any (by omega), y] at z; cases z
    have z2 : ∀ t, t < min (sp_N ρ) (n + 1) → sp_ic ρ 8 t p = false := by
      intro t ht
      cases u : sp_ic ρ 8 t p
      · rfl
      · rw [any_iff.mpr ⟨t, ht, u⟩] at y; cases y
    have eg : sp_ct (sp_g2 ρ p) (min (sp_N ρ) (n + 1)) = sp_ct (sp_cq2 ρ p) (min (sp_N ρ) (n + 1)) := ct_cong (fun t ht => by unfold sp_g2; rw [z2 t ht]; rfl)
    rw [if_neg z, if_neg (by decide), (low_tab _ (by omega) c hc w hw).1, eg]
    rfl
  · rw [if_pos ((first_any (by omega)).mpr y), if_pos rfl, low_one _ (by omega) w hw]
    rfl
theorem q_chance : pp_chance RR := by
  intro hx hm a b d e ⟨ρ, hr, hv, hc⟩
  have hb := P_le hv.1
  rcases below_cases a (n := 16 + 1) (by omega) with ⟨k, hk, rfl⟩ | h
  · rcases below_cases b (n := sp_P ρ) (by omega) with ⟨p, hp, rfl⟩ | h2
    · obtain ⟨m1, e1, h1⟩ := isPlace_y hr hv.1 hp
      rcases below_cases d (n := 11 + 1) (by omega) with ⟨n, hn, rfl⟩ | h3
      · rcases below_cases e (n := 1 + 1) (by omega) with ⟨w, hw, rfl⟩ | h4
        · obtain ⟨m2, e2, h2⟩ := chanceOf_eq h1.1 hv hk hp hn hw
          rw [chance_c hv hc hk hp hn hw]
          unfold fX9_chance
          rw [show (16 : Int32) = nI 16 from rfl, mbelow_y (by omega) (by omega), Option.bind_some, if_pos rfl, e1, Option.bind_some]; dsimp only
          rw [if_pos rfl, show (11 : Int32) = nI 11 from rfl, mbelow_y (by omega) (by omega), Option.bind_some, if_pos rfl, show (1 : Int32) = nI 1 from rfl, mbelow_y (by omega) (by omega), Option.bind_some, if_pos rfl, e2]
          exact ⟨_, m2, rfl, rfl, ρ, h2.1, hv, hc⟩
        · unfold fX9_chance fX8_chance fX8_chance_L39 fX9_chance_L50
          rw [show (16 : Int32) = nI 16 from rfl, mbelow_y (by omega) (by omega), Option.bind_some, if_pos rfl, e1, Option.bind_some]; dsimp only
          rw [if_pos rfl, show (11 : Int32) = nI 11 from rfl, mbelow_y (by omega) (by omega), Option.bind_some, if_pos rfl, show (1 : Int32) = nI 1 from rfl, mbelow_n (by omega) h4, if_neg (nI_pos (by omega)), if_neg (nI_nlt (by omega) (by omega)), has_y hc.P.1 hp (by omega), Option.bind_some, if_pos rfl, show (12 : Int32) = nI (11 + 1) from rfl, below_y hn (by omega), Option.bind_some, if_pos rfl, show (2 : Int32) = nI (1 + 1) from rfl, below_n h4]
          exact ⟨_, m1, rfl, rfl, ρ, h1.1, hv, hc⟩
      · unfold fX9_chance fX8_chance fX8_chance_L39 fX9_chance_L50
        rw [show (16 : Int32) = nI 16 from rfl, mbelow_y (by omega) (by omega), Option.bind_some, if_pos rfl, e1, Option.bind_some]; dsimp only
        rw [if_pos rfl, show (11 : Int32) = nI 11 from rfl, mbelow_n (by omega) h3, if_neg (nI_pos (by omega)), if_neg (nI_nlt (by omega) (by omega)), has_y hc.P.1 hp (by omega), Option.bind_some, if_pos rfl, show (12 : Int32) = nI (11 + 1) from rfl, below_n h3]
        exact ⟨_, m1, rfl, rfl, ρ, h1.1, hv, hc⟩
    · obtain ⟨m1, e1, h1⟩ := isPlace_n hr hv.1 h2
      unfold fX9_chance fX8_chance fX8_chance_L39 fX9_chance_L50
      rw [show (16 : Int32) = nI 16 from rfl, mbelow_y (by omega) (by omega), Option.bind_some, if_pos rfl, e1, if_neg (nI_pos (by omega)), if_neg (nI_nlt (by omega) (by omega)), has_n hc.P.1 h2]
      exact ⟨_, m1, rfl, rfl, ρ, h1.1, hv, hc⟩
  · unfold fX9_chance fX8_chance fX8_chance_L39 fX9_chance_L50
    rw [show (16 : Int32) = nI 16 from rfl, mbelow_n (by omega) h]
    by_cases c1 : a < 0
    · rw [if_pos c1]
      exact ⟨_, hm, rfl, rfl, ρ, hr, hv, hc⟩
    · have c2 : nI 16 < a := by
        rcases h with h | h
        · exact absurd h c1
        · rw [Int32.lt_iff_toInt_lt, nI_toInt (by omega)]
          rw [Int32.le_iff_toInt_le, nI_toInt (by omega)] at h
          omega
      rw [if_neg c1, if_pos c2]
      exact ⟨_, hm, rfl, rfl, ρ, hr, hv, hc⟩
