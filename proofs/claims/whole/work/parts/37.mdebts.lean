/-! ===== the model's reading of the debts ===== -/
theorem bA_y {ρ : fd_H} {t i : Nat} (h : i < sp_tl ρ t) : sp_bA ρ t i = nI (sp_by ρ t i) := if_pos h
theorem isWell_eq {m ρ : fd_H} {d k : Nat} (hr : sp_raw m = ρ) (hv : sp_V1 ρ) (hd : d < 9) (hk : k < 7) : fX9_isWell (nI (8 * d)) (nI k) m = some (sp_gd ρ 2 (8 * d + k)) := by
  have hg : sp_gd ρ 2 (8 * d + k) = (decide (8 * d + k < sp_tl ρ 2) && sp_fitD k (sp_by ρ 2 (8 * d + k)) (if 8 * d + k = 0 then 0 else sp_by ρ 2 (8 * d + k - 1))) := by
    unfold sp_gd sp_fit
    rw [if_neg (by decide), if_neg (by decide), show (8 * d + k) % 8 = k by omega]
  rw [hg]
  unfold fX9_isWell fX9_isWell_L89
  rw [nI_add, show (2 : Int32) = nI 2 from rfl, byteAt_eq hr hv (by omega) (by omega), Option.bind_some]
  have two : ∀ (lo hi : Nat), lo < 256 → hi < 256 → (fX9_in (sp_bA ρ 2 (8 * d + k)) (nI lo) (nI hi)).bind (fun r => some r) = some (decide (8 * d + k < sp_tl ρ 2) && (decide (lo ≤ sp_by ρ 2 (8 * d + k)) && decide (sp_by ρ 2 (8 * d + k) ≤ hi))) := by
    intro lo hi h1 h2
    rw [in_bA hv (by omega) h1 h2, Option.bind_some]
  rcases (show k = 0 ∨ k = 1 ∨ k = 2 ∨ k = 3 ∨ k = 4 ∨ k = 5 ∨ k = 6 by omega) with rfl | rfl | rfl | rfl | rfl | rfl | rfl
  · rw [if_neg (by decide)]
    exact two 97 102 (by omega) (by omega)
  · rw [if_neg (by decide)]
    exact two 97 102 (by omega) (by omega)
  · rw [if_pos (by decide), if_neg (by decide), if_neg (by decide), if_neg (by decide)]
    exact two 48 57 (by omega) (by omega)
  · rw [if_pos (by decide), if_pos (by decide), show (48 : Int32) = nI 48 from rfl, show (57 : Int32) = nI 57 from rfl, in_bA hv (by omega) (by omega) (by omega), Option.bind_some]
    show _ = some (decide (8 * d + 3 < sp_tl ρ 2) && (sp_dig (sp_by ρ 2 (8 * d + 3)) 9 && !(decide ((if 8 * d + 3 = 0 then 0 else sp_by ρ 2 (8 * d + 3 - 1)) = 48) && decide (sp_by ρ 2 (8 * d + 3) = 48))))
    rw [if_neg (by omega : ¬ 8 * d + 3 = 0), show 8 * d + 3 - 1 = 8 * d + 2 by omega]
    by_cases h : 8 * d + 3 < sp_tl ρ 2
    · have hb3 := ((hv 2 (by omega)).2.2 _ h).2
      have hb2 := ((hv 2 (by omega)).2.2 (8 * d + 2) (by omega)).2
      rw [decide_eq_true h, Bool.true_and, Bool.true_and, bA_y h]
      show (if sp_dig (sp_by ρ 2 (8 * d + 3)) 9 = true then _ else _) = _
      cases sp_dig (sp_by ρ 2 (8 * d + 3)) 9
      · rfl
      · rw [if_pos rfl, Bool.true_and]
        by_cases c : sp_by ρ 2 (8 * d + 3) = 48
        · rw [if_pos (by rw [c]), nI_add, byteAt_eq hr hv (by omega) (by omega), Option.bind_some, bA_y (by omega), decide_eq_true c, Bool.and_true]
          by_cases c2 : sp_by ρ 2 (8 * d + 2) = 48
          · rw [if_pos (by rw [c2]), decide_eq_true c2]; rfl
          · rw [if_neg (nI_ne c2 (by omega) (by omega)), decide_eq_false c2]; rfl
        · rw [if_neg (nI_ne c (by omega) (by omega)), decide_eq_false c, Bool.and_false]; rfl
    · rw [decide_eq_false h]
      rfl
  · rw [if_pos (by decide), if_neg (by decide), if_pos (by decide)]
    exact two 48 55 (by omega) (by omega)
  · rw [if_pos (by decide), if_neg (by decide), if_neg (by decide), if_pos (by decide)]
    exact two 48 51 (by omega) (by omega)
  · rw [if_pos (by decide), if_neg (by decide), if_neg (by decide), if_neg (by decide)]
    exact two 48 57 (by omega) (by omega)
/-- the five facts laid down -/
def sp_dm (ρ m : fd_H) (d : Nat) : fd_H := fd_ui (fd_ui (fd_ui (fd_ui (fd_ui m 79 d (nI (sp_f ρ d 0))) 80 d (nI (sp_f ρ d 1))) 81 d (nI (sp_f ρ d 2))) 82 d (nI (sp_f ρ d 3))) 83 d (nI (sp_f ρ d 4))
theorem fitD_let {a b c : Nat} (h : sp_fitD a b c = true) : (a ≤ 1 → 97 ≤ b) ∧ (2 ≤ a → a < 7 → 48 ≤ b) := by
  unfold sp_fitD at h
  by_cases h1 : a ≤ 1
  · rw [if_pos h1] at h
    simp only [Bool.and_eq_true, decide_eq_true_eq] at h
    exact ⟨fun _ => h.1, fun q => by omega⟩
  · refine ⟨fun q => absurd q h1, fun _ h7 => ?_⟩
    rw [if_neg h1] at h
    rcases (show a = 2 ∨ a = 3 ∨ a = 4 ∨ a = 5 ∨ a = 6 by omega) with rfl | rfl | rfl | rfl | rfl
    · exact (dig_iff.mp h).1
    · have h : (sp_dig b 9 && !(decide (c = 48) && decide (b = 48))) = true := h
      rw [Bool.and_eq_true] at h
      exact (dig_iff.mp h.1).1
    · exact (dig_iff.mp h).1
    · exact (dig_iff.mp h).1
    · exact (dig_iff.mp h).1
theorem gd_by {ρ : fd_H} {d k : Nat} (hk : k < 7) (h : sp_gd ρ 2 (8 * d + k) = true) : (k ≤ 1 → 97 ≤ sp_by ρ 2 (8 * d + k)) ∧ (2 ≤ k → 48 ≤ sp_by ρ 2 (8 * d + k)) := by
  have h2 := (fit_ge h).2
  unfold sp_fit at h2
  rw [if_neg (by decide), if_neg (by decide), show (8 * d + k) % 8 = k by omega] at h2
  have := fitD_let h2
  exact ⟨this.1, fun q => this.2 q hk⟩
theorem rd_stop {m ρ : fd_H} {d k : Nat} (hr : sp_raw m = ρ) (hv : sp_V1 ρ) (hd : d < 9) (hk : k < 7) (hno : ∀ j, j < k → sp_gd ρ 2 (8 * d + j) = true) (hyes : sp_gd ρ 2 (8 * d + k) = false) : fX9_readsDebt_L2 (nI d) (nI (8 * d)) fd_fu 0 m = some (nI k, m) :=
  lp0 (F := fun n (_ : Unit) i => fX9_readsDebt_L2 (nI d) (nI (8 * d)) n i m) (fun _ => ()) k (by omega)
    (by
      intro n
      show fX9_readsDebt_L2 (nI d) (nI (8 * d)) (n + 1) (nI k) m = _
      rw [fX9_readsDebt_L2]; dsimp only
      rw [show (7 : Int32) = nI 7 from rfl, if_neg (nI_ge hk (by omega)), isWell_eq hr hv hd hk, Option.bind_some, hyes]
      rfl)
    (by
      intro n i hi
      show fX9_readsDebt_L2 (nI d) (nI (8 * d)) (n + 1) (nI i) m = fX9_readsDebt_L2 (nI d) (nI (8 * d)) n (nI (i + 1)) m
      rw [fX9_readsDebt_L2]; dsimp only
      rw [show (7 : Int32) = nI 7 from rfl, if_neg (nI_ge (by omega : i < 7) (by omega)), isWell_eq hr hv hd (by omega), Option.bind_some, nI_1, hno i hi]
      rfl)
theorem rd_go {m ρ : fd_H} {d : Nat} (hr : sp_raw m = ρ) (hv : sp_V1 ρ) (hd : d < 9) (hg : ∀ j, j < 7 → sp_gd ρ 2 (8 * d + j) = true) (res : Option (Int32 × fd_H)) (hres : ∀ n, fX9_readsDebt_L2 (nI d) (nI (8 * d)) (n + 1) (nI 7) m = res) : fX9_readsDebt_L2 (nI d) (nI (8 * d)) fd_fu 0 m = res :=
  lp0 (F := fun n (_ : Unit) i => fX9_readsDebt_L2 (nI d) (nI (8 * d)) n i m) (fun _ => ()) 7 (by omega) hres
    (by
      intro n i hi
      show fX9_readsDebt_L2 (nI d) (nI (8 * d)) (n + 1) (nI i) m = fX9_readsDebt_L2 (nI d) (nI (8 * d)) n (nI (i + 1)) m
      rw [fX9_readsDebt_L2]; dsimp only
      rw [show (7 : Int32) = nI 7 from rfl, if_neg (nI_ge hi (by omega)), isWell_eq hr hv hd hi, Option.bind_some, nI_1, hg i hi]
      rfl)
set_option maxHeartbeats 2000000 in
theorem readsDebt_eq {m ρ : fd_H} {d : Nat} (hr : sp_raw m = ρ) (hv : sp_V1 ρ) (hd : d < 9) : fX9_readsDebt (nI d) (nI (8 * d)) m = some (if sp_fs (fun k => !sp_gd ρ 2 (8 * d + k)) 7 < 7 then (nI (sp_fs (fun k => !sp_gd ρ 2 (8 * d + k)) 7), m) else (7, sp_dm ρ m d)) := by
  unfold fX9_readsDebt
  by_cases hall : sp_fs (fun k => !sp_gd ρ 2 (8 * d + k)) 7 < 7
  · rw [if_pos hall]
    exact rd_stop hr hv hd hall (fun j hj => by
      have := fs_no (fun k => !sp_gd ρ 2 (8 * d + k)) 7 j hj
      simpa using this) (by
      have := fs_yes (fun k => !sp_gd ρ 2 (8 * d + k)) 7 hall
      simpa using this)
  · rw [if_neg hall]
    have h7 : sp_fs (fun k => !sp_gd ρ 2 (8 * d + k)) 7 = 7 := by have := fs_le (fun k => !sp_gd ρ 2 (8 * d + k)) 7; omega
    have hg : ∀ k, k < 7 → sp_gd ρ 2 (8 * d + k) = true := by
      intro k hk
      have := fs_no (fun k => !sp_gd ρ 2 (8 * d + k)) 7 k (by omega)
      simpa using this
    have l6 := (fit_ge (hg 6 (by omega))).1
    have v2 : sp_tl ρ 2 ≤ 71 := (hv 2 (by omega)).2.1
    have b0 := (gd_by (by omega) (hg 0 (by omega))).1 (by omega)
    have b1 := (gd_by (by omega) (hg 1 (by omega))).1 (by omega)
    have b2 := (gd_by (by omega) (hg 2 (by omega))).2 (by omega)
    have b3 := (gd_by (by omega) (hg 3 (by omega))).2 (by omega)
    have b4 := (gd_by (by omega) (hg 4 (by omega))).2 (by omega)
    have b5 := (gd_by (by omega) (hg 5 (by omega))).2 (by omega)
    have b6 := (gd_by (by omega) (hg 6 (by omega))).2 (by omega)
    have k1 : nI (8 * d) + 1 = nI (8 * d + 1) := nI_add _ 1
    have k2 : nI (8 * d) + nI 2 = nI (8 * d + 2) := nI_add _ 2
    have k3 : nI (8 * d) + 3 = nI (8 * d + 3) := nI_add _ 3
    have k4 : nI (8 * d) + 4 = nI (8 * d + 4) := nI_add _ 4
    have k5 : nI (8 * d) + 5 = nI (8 * d + 5) := nI_add _ 5
    have k6 : nI (8 * d) + 6 = nI (8 * d + 6) := nI_add _ 6
    have two : ∀ i, 48 ≤ sp_by ρ 2 i → 48 ≤ sp_by ρ 2 (i + 1) → (10 : Int32) * (nI (sp_by ρ 2 i) - 48) + nI (sp_by ρ 2 (i + 1)) - 48 = nI (sp_two ρ i) := by
      intro i r1 r2
      rw [show (48 : Int32) = nI 48 from rfl, pk_sub r1, show (10 : Int32) = nI 10 from rfl, pk_mul, nI_add, pk_sub (by omega)]
      unfold sp_two
      rw [show 10 * (sp_by ρ 2 i - 48) + sp_by ρ 2 (i + 1) - 48 = 10 * (sp_by ρ 2 i - 48) + (sp_by ρ 2 (i + 1) - 48) by omega]
    have bt : ∀ (q : fd_H) (i : Nat), sp_raw q = ρ → i < sp_tl ρ 2 → fX9_byteAt (nI 2) (nI i) q = some (nI (sp_by ρ 2 i)) := fun q i hq hi => by rw [byteAt_eq hq hv (by omega) (by omega), bA_y hi]
    have r1 : sp_raw (fd_ui m 79 d (nI (sp_f ρ d 0))) = ρ := raw_ui2 hr rfl
    have r2 : sp_raw (fd_ui (fd_ui m 79 d (nI (sp_f ρ d 0))) 80 d (nI (sp_f ρ d 1))) = ρ := raw_ui2 r1 rfl
    have r3 : sp_raw (fd_ui (fd_ui (fd_ui m 79 d (nI (sp_f ρ d 0))) 80 d (nI (sp_f ρ d 1))) 81 d (nI (sp_f ρ d 2))) = ρ := raw_ui2 r2 rfl
    have r4 : sp_raw (fd_ui (fd_ui (fd_ui (fd_ui m 79 d (nI (sp_f ρ d 0))) 80 d (nI (sp_f ρ d 1))) 81 d (nI (sp_f ρ d 2))) 82 d (nI (sp_f ρ d 3))) = ρ := raw_ui2 r3 rfl
    have e0 : nI (sp_by ρ 2 (8 * d)) - 97 = nI (sp_f ρ d 0) := pk_sub (b := 97) b0
    have e1 : nI (sp_by ρ 2 (8 * d + 1)) - 97 = nI (sp_f ρ d 1) := pk_sub (b := 97) b1
    have e2 : (10 : Int32) * (nI (sp_by ρ 2 (8 * d + 2)) - 48) + nI (sp_by ρ 2 (8 * d + 3)) - 48 = nI (sp_f ρ d 2) := two (8 * d + 2) b2 b3
    have e3 : nI (sp_by ρ 2 (8 * d + 4)) - 48 = nI (sp_f ρ d 3) := pk_sub (b := 48) b4
    have e4 : (10 : Int32) * (nI (sp_by ρ 2 (8 * d + 5)) - 48) + nI (sp_by ρ 2 (8 * d + 6)) - 48 = nI (sp_f ρ d 4) := two (8 * d + 5) b5 b6
    refine rd_go hr hv hd hg _ (fun n => ?_)
    rw [fX9_readsDebt_L2]; dsimp only
    rw [if_pos (by decide), show (2 : Int32) = nI 2 from rfl, bt m _ hr (by omega), Option.bind_some, in_nI (by omega) (by omega), fd_g, if_pos rfl, nI_clamp (by omega), e0, fd_lt]
    rw [k1, bt _ _ r1 (by omega), Option.bind_some, fd_g, if_pos rfl, e1, fd_lt]
    rw [k2, bt _ _ r2 (by omega), Option.bind_some, k3, bt _ _ r2 (by omega), Option.bind_some, fd_g, if_pos rfl, e2, fd_lt]
    rw [k4, bt _ _ r3 (by omega), Option.bind_some, fd_g, if_pos rfl, e3, fd_lt]
    rw [k5, bt _ _ r4 (by omega), Option.bind_some, k6, bt _ _ r4 (by omega), Option.bind_some, fd_g, if_pos rfl, e4, fd_lt]
    rfl
set_option maxHeartbeats 2000000 in
theorem parts2_loop {ρ : fd_H} (hv : sp_V1 ρ) (m0 : fd_H) : ∀ (d n f : Nat) (m : fd_H), n + d = 10 → d < f → (n = 0 → 0 < sp_tl ρ 2) → sp_raw m = ρ → m.1 73 7 = 0 → 8 * n ≤ sp_tl ρ 2 → (∀ i, i < 8 * n → sp_fit ρ 2 i = true) → (∀ d, d < n → m.1 79 d = nI (sp_f ρ d 0) ∧ m.1 80 d = nI (sp_f ρ d 1) ∧ m.1 81 d = nI (sp_f ρ d 2) ∧ m.1 82 d = nI (sp_f ρ d 3) ∧ m.1 83 d = nI (sp_f ρ d 4)) → (∀ x y, ¬ (x = 73 ∧ y = 7) → x ≠ 79 → x ≠ 80 → x ≠ 81 → x ≠ 82 → x ≠ 83 → m.1 x y = m0.1 x y) → ∃ m', fX9_readsParts_L62 2 f 7 9 (nI n) (nI (8 * n)) m = some (sp_fault ρ 2, m') ∧ sp_raw m' = ρ ∧ mp_D m' ρ ∧ ∀ x y, ¬ (x = 73 ∧ y = 7) → x ≠ 79 → x ≠ 80 → x ≠ 81 → x ≠ 82 → x ≠ 83 → m'.1 x y = m0.1 x y := by
  have v2 : sp_tl ρ 2 ≤ 71 := (hv 2 (by omega)).2.1
  have v1 := (hv 2 (by omega)).1
  intro d
  induction d with
  | zero => intro n f m hd hf h0 hr hp hl; omega
  | succ d ih =>
    intro n f m hd hf h0 hr hp hl hall hm hfr
    obtain ⟨f, rfl⟩ : ∃ k, f = k + 1 := ⟨f - 1, by omega⟩
    have hn8 : n < 9 := by omega
    have go : fX9_readsParts_L62 2 (f + 1) 7 9 (nI n) (nI (8 * n)) m = fX9_readsParts_L78 2 (fX9_readsParts_L62 2 f) 7 9 (nI n) (nI (8 * n)) m := by
      rw [fX9_readsParts_L62]; dsimp only
      rw [show fd_in 2 3 = true from rfl, fd_g, if_pos rfl, show (2 : Int32).toNatClampNeg = 2 from rfl, raw_get hr 74 2 rfl, v1]
      by_cases c : 8 * n < sp_tl ρ 2
      · rw [if_pos (nI_lt c (by omega))]
      · rw [if_neg (nI_nlt (by omega) (by omega)), if_neg (nI_nle (by
          rcases Nat.eq_zero_or_pos n with q | q
          · have := h0 q; omega
          · omega) (by omega))]
    rw [go]
    unfold fX9_readsParts_L78
    rw [show (9 : Int32) = nI 9 from rfl, if_neg (nI_ne (by omega) (by omega) (by omega)), if_neg (by decide), readsDebt_eq hr hv hn8, Option.bind_some]
    unfold fX9_readsParts_L111
    by_cases hs : sp_fs (fun k => !sp_gd ρ 2 (8 * n + k)) 7 < 7
    · rw [if_pos hs]; dsimp only
      generalize hk : sp_fs (fun k => !sp_gd ρ 2 (8 * n + k)) 7 = k at hs
      have hno : ∀ j, j < k → sp_gd ρ 2 (8 * n + j) = true := by
        intro j hj
        have := fs_no (fun k => !sp_gd ρ 2 (8 * n + k)) 7 j (by omega)
        simpa using this
      have hyes : sp_gd ρ 2 (8 * n + k) = false := by
        have := fs_yes (fun k => !sp_gd ρ 2 (8 * n + k)) 7 (by omega)
        rw [hk] at this
        simpa using this
      have hall2 : ∀ i, i < 8 * n + k → sp_fit ρ 2 i = true := by
        intro i hi
        rcases Nat.lt_or_ge i (8 * n) with q | q
        · exact hall i q
        · have := (fit_ge (hno (i - 8 * n) (by omega))).2
          rw [show 8 * n + (i - 8 * n) = i by omega] at this
          exact this
      have hl2 : 8 * n + k ≤ sp_tl ρ 2 := by
        rcases Nat.eq_zero_or_pos k with q | q
        · omega
        · have := (fit_ge (hno (k - 1) (by omega))).1
          omega
      obtain ⟨hw, hfa⟩ := fault_at hl2 hall2 hyes (fun e => by
        unfold sp_end
        have hz : ¬ 8 * n + k = 0 := by
          intro q
          have := h0 (by omega)
          omega
        rw [decide_eq_false hz, if_neg (by decide), decide_eq_false (by omega : ¬ (8 * n + k) % 8 = 7)]
        rfl)
      rw [show (7 : Int32) = nI 7 from rfl, if_neg (nI_ge hs (by omega)), nI_add, hfa]
      refine ⟨m, rfl, hr, ⟨?_, ?_⟩, hfr⟩
      · unfold sp_D; rw [hw, hp]; rfl
      · intro p hpp; unfold sp_D at hpp; rw [hw] at hpp; exact absurd hpp (Nat.not_lt_zero p)
    · rw [if_neg hs]; dsimp only
      have hno : ∀ j, j < 7 → sp_gd ρ 2 (8 * n + j) = true := by
        intro j hj
        have := fs_no (fun k => !sp_gd ρ 2 (8 * n + k)) 7 j (by omega)
        simpa using this
      have hall2 : ∀ i, i < 8 * n + 7 → sp_fit ρ 2 i = true := by
        intro i hi
        rcases Nat.lt_or_ge i (8 * n) with q | q
        · exact hall i q
        · have := (fit_ge (hno (i - 8 * n) (by omega))).2
          rw [show 8 * n + (i - 8 * n) = i by omega] at this
          exact this
      have l6 := (fit_ge (hno 6 (by omega))).1
      generalize hm2 : sp_dm ρ m n = m2
      unfold sp_dm at hm2
      have hr2 : sp_raw m2 = ρ := by rw [← hm2]; exact raw_ui2 (raw_ui2 (raw_ui2 (raw_ui2 (raw_ui2 hr rfl) rfl) rfl) rfl) rfl
      have hp2 : m2.1 73 7 = 0 := by rw [← hm2, ui_g (by omega), ui_g (by omega), ui_g (by omega), ui_g (by omega), ui_g (by omega), hp]
      have hfr2 : ∀ x y, ¬ (x = 73 ∧ y = 7) → x ≠ 79 → x ≠ 80 → x ≠ 81 → x ≠ 82 → x ≠ 83 → m2.1 x y = m0.1 x y := by
        intro x y a1 a2 a3 a4 a5 a6
        rw [← hm2, ui_g (by omega), ui_g (by omega), ui_g (by omega), ui_g (by omega), ui_g (by omega), hfr x y a1 a2 a3 a4 a5 a6]
      have hm3 : ∀ p, p < n + 1 → m2.1 79 p = nI (sp_f ρ p 0) ∧ m2.1 80 p = nI (sp_f ρ p 1) ∧ m2.1 81 p = nI (sp_f ρ p 2) ∧ m2.1 82 p = nI (sp_f ρ p 3) ∧ m2.1 83 p = nI (sp_f ρ p 4) := by
        intro p hpp
        rcases Nat.lt_or_ge p n with q | q
        · have := hm p q
          rw [← hm2]
          refine ⟨?_, ?_, ?_, ?_, ?_⟩
          · rw [ui_g (by omega), ui_g (by omega), ui_g (by omega), ui_g (by omega), ui_g (by omega)]; exact this.1
          · rw [ui_g (by omega), ui_g (by omega), ui_g (by omega), ui_g (by omega), ui_g (by omega)]; exact this.2.1
          · rw [ui_g (by omega), ui_g (by omega), ui_g (by omega), ui_g (by omega), ui_g (by omega)]; exact this.2.2.1
          · rw [ui_g (by omega), ui_g (by omega), ui_g (by omega), ui_g (by omega), ui_g (by omega)]; exact this.2.2.2.1
          · rw [ui_g (by omega), ui_g (by omega), ui_g (by omega), ui_g (by omega), ui_g (by omega)]; exact this.2.2.2.2
        · have : p = n := by omega
          subst this
          rw [← hm2]
          refine ⟨?_, ?_, ?_, ?_, ui_s⟩
          · rw [ui_g (by omega), ui_g (by omega), ui_g (by omega), ui_g (by omega), ui_s]
          · rw [ui_g (by omega), ui_g (by omega), ui_g (by omega), ui_s]
          · rw [ui_g (by omega), ui_g (by omega), ui_s]
          · rw [ui_g (by omega), ui_s]
      rw [if_pos (by decide), fd_lt, show fd_in 2 3 = true from rfl, fd_g, if_pos rfl, show (2 : Int32).toNatClampNeg = 2 from rfl, raw_get hr2 74 2 rfl, v1, show nI (8 * n) + 7 = nI (8 * n + 7) from nI_add _ 7]
      by_cases ce : 8 * n + 7 = sp_tl ρ 2
      · obtain ⟨hw, hfa⟩ := well_at (ρ := ρ) (t := 2) (by rw [← ce]; exact hall2) (by
          unfold sp_end
          rw [if_neg (by decide), decide_eq_true (by omega : sp_tl ρ 2 % 8 = 7), Bool.or_true])
        have hP : sp_D ρ = n + 1 := by unfold sp_D; rw [if_pos hw]; omega
        rw [if_pos (by rw [ce]), if_neg (by decide)]
        unfold fX9_readsParts_L159 fX9_readsParts_L177
        rw [fd_lt, if_pos rfl, fd_lt, hfa, nI_1]
        refine ⟨_, rfl, raw_ui2 (raw_ui2 hr2 rfl) rfl, ⟨?_, ?_⟩, ?_⟩
        · rw [ui_s, hP]
        · intro p hpp
          rw [hP] at hpp
          have := hm3 p hpp
          refine ⟨?_, ?_, ?_, ?_, ?_⟩
          · rw [ui_g (by omega), ui_g (by omega)]; exact this.1
          · rw [ui_g (by omega), ui_g (by omega)]; exact this.2.1
          · rw [ui_g (by omega), ui_g (by omega)]; exact this.2.2.1
          · rw [ui_g (by omega), ui_g (by omega)]; exact this.2.2.2.1
          · rw [ui_g (by omega), ui_g (by omega)]; exact this.2.2.2.2
        · intro x y a1 a2 a3 a4 a5 a6
          by_cases c7 : x = 73 ∧ y = 2
          · obtain ⟨rfl, rfl⟩ := c7
            rw [ui_g (by omega), ui_s, hfr2 _ _ (by omega) (by omega) (by omega) (by omega) (by omega) (by omega)]
          · rw [ui_g a1, ui_g c7, hfr2 x y a1 a2 a3 a4 a5 a6]
      · rw [if_neg (nI_ne ce (by omega) (by omega)), show (2 : Int32) = nI 2 from rfl, byteAt_eq hr2 hv (by omega) (by omega), Option.bind_some]
        have l2 : 8 * n + 7 < sp_tl ρ 2 := by omega
        have hb := ((hv 2 (by omega)).2.2 _ l2).2
        have eg : sp_gd ρ 2 (8 * n + 7) = decide (sp_by ρ 2 (8 * n + 7) = 59) := by
          unfold sp_gd sp_fit
          rw [decide_eq_true l2, Bool.true_and, if_neg (by decide), if_neg (by decide), show (8 * n + 7) % 8 = 7 by omega]
          rfl
        rw [bA_y l2, show (59 : Int32) = nI 59 from rfl]
        by_cases c59 : sp_by ρ 2 (8 * n + 7) = 59
        · rw [if_pos (by rw [c59]), nI_1, nI_1]
          rw [decide_eq_true c59] at eg
          exact ih (n + 1) f m2 (by omega) (by omega) (fun q => by omega) hr2 hp2 (by omega) (fun i hi => by
            rcases Nat.lt_or_ge i (8 * n + 7) with q | q
            · exact hall2 i q
            · have : i = 8 * n + 7 := by omega
              rw [this]; exact (fit_ge eg).2) hm3 hfr2
        · rw [if_neg (nI_ne c59 (by omega) (by omega))]
          rw [decide_eq_false c59] at eg
          obtain ⟨hw, hfa⟩ := fault_at (Nat.le_of_lt l2) hall2 eg (fun e => by omega)
          refine ⟨m2, by rw [hfa], hr2, ⟨?_, ?_⟩, hfr2⟩
          · unfold sp_D; rw [hw, hp2]; rfl
          · intro p hpp; unfold sp_D at hpp; rw [hw] at hpp; exact absurd hpp (Nat.not_lt_zero p)
theorem parts2 {m ρ : fd_H} (hr : sp_raw m = ρ) (hv : sp_V1 ρ) : ∃ m', fX9_readsParts 2 m = some (sp_fault ρ 2, m') ∧ sp_raw m' = ρ ∧ mp_D m' ρ ∧ ∀ x y, ¬ (x = 73 ∧ y = 7) → x ≠ 79 → x ≠ 80 → x ≠ 81 → x ≠ 82 → x ≠ 83 → m'.1 x y = m.1 x y := by
  have v1 := (hv 2 (by omega)).1
  have e : fX9_readsParts 2 m = fX9_readsParts_L62 2 fd_fu 7 9 0 0 (fd_ui (fd_ui m 73 2 (m.1 73 2)) 73 7 0) := rfl
  rw [e]
  generalize hm1 : fd_ui (fd_ui m 73 2 (m.1 73 2)) 73 7 0 = m1
  have hr1 : sp_raw m1 = ρ := by rw [← hm1]; exact raw_ui2 (raw_ui2 hr rfl) rfl
  have hp1 : m1.1 73 7 = 0 := by rw [← hm1, ui_s]
  have hf1 : ∀ x y, ¬ (x = 73 ∧ y = 7) → x ≠ 79 → x ≠ 80 → x ≠ 81 → x ≠ 82 → x ≠ 83 → m1.1 x y = m.1 x y := by
    intro x y a1 _ _ _ _ _
    rw [← hm1, ui_g a1]
    by_cases c7 : x = 73 ∧ y = 2
    · obtain ⟨rfl, rfl⟩ := c7
      rw [ui_s]
    · rw [ui_g c7]
  by_cases h0 : sp_tl ρ 2 = 0
  · obtain ⟨hw, hfa⟩ := empty_well h0
    refine ⟨m1, ?_, hr1, ⟨?_, ?_⟩, hf1⟩
    · rw [show fd_fu = 199 + 1 from rfl, fX9_readsParts_L62]; dsimp only
      rw [show fd_in 2 3 = true from rfl, fd_g, if_pos rfl, show (2 : Int32).toNatClampNeg = 2 from rfl, raw_get hr1 74 2 rfl, v1, h0, if_neg (by decide), if_pos (by decide), hfa]
    · unfold sp_D; rw [if_pos hw, h0, hp1]; rfl
    · intro p hpp; unfold sp_D at hpp; rw [if_pos hw, h0] at hpp; exact absurd hpp (Nat.not_lt_zero p)
  · exact parts2_loop hv m 10 0 fd_fu m1 rfl (by have := fu_ge; omega) (fun _ => by omega) hr1 hp1 (Nat.zero_le _) (fun i hi => absurd hi (Nat.not_lt_zero i)) (fun p hp => absurd hp (Nat.not_lt_zero p)) hf1
/-- the model has read its texts -/
def mp_R (m ρ : fd_H) : Prop := sp_raw m = ρ ∧ mp_P m ρ ∧ mp_N m ρ ∧ mp_D m ρ
theorem mfault_eq {m ρ : fd_H} {t : Nat} (hr : sp_raw m = ρ) (hv : sp_V1 ρ) (ht : t < 3) : ∃ m', fX9_faultOf (nI t) m = some (sp_fault ρ t, m') ∧ mp_R m' ρ := by
  obtain ⟨m1, e1, r1, p1, f1⟩ := parts0 hr hv
  obtain ⟨m2, e2, r2, p2, f2⟩ := nights_eq r1 hv
  obtain ⟨m3, e3, r3, p3, f3⟩ := parts2 r2 hv
  refine ⟨m3, ?_, r3, ⟨?_, ?_⟩, ⟨?_, ?_⟩, p3⟩
  · unfold fX9_faultOf
    rw [e1, Option.bind_some]; dsimp only
    rw [e2, Option.bind_some]; dsimp only
    rw [e3, Option.bind_some]; dsimp only
    rcases (show t = 0 ∨ t = 1 ∨ t = 2 by omega) with rfl | rfl | rfl <;> rfl
  · rw [f3 _ _ (by omega) (by omega) (by omega) (by omega) (by omega) (by omega), f2 _ _ (by omega) (by omega), p1.1]
  · intro p hp
    rw [f3 _ _ (by omega) (by omega) (by omega) (by omega) (by omega) (by omega), f2 _ _ (by omega) (by omega), f3 _ _ (by omega) (by omega) (by omega) (by omega) (by omega) (by omega), f2 _ _ (by omega) (by omega)]
    exact p1.2 p hp
  · rw [f3 _ _ (by omega) (by omega) (by omega) (by omega) (by omega) (by omega), p2.1]
  · intro p hp
    rw [f3 _ _ (by omega) (by omega) (by omega) (by omega) (by omega) (by omega)]
    exact p2.2 p hp
theorem reads_eq {m ρ : fd_H} (hr : sp_raw m = ρ) (hv : sp_V1 ρ) : ∃ m', fX9_reads m = some m' ∧ mp_R m' ρ := by
  obtain ⟨m', e, h⟩ := mfault_eq (t := 0) hr hv (by omega)
  refine ⟨m', ?_, h⟩
  unfold fX9_reads
  rw [show (0 : Int32) = nI 0 from rfl, e]
  rfl
