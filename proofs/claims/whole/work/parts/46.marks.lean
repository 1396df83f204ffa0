/-! ===== zero, the told marks, what was seen ===== -/
theorem mark_c {h h' ρ ρ' : fd_H} (hv : sp_V ρ) (c : CX h ρ) (hv2 : sp_V2 ρ') (hρ : ∀ x y, x ≠ 84 → x ≠ 85 → x ≠ 86 → ¬ (x = 73 ∧ y = 13) → ρ'.1 x y = ρ.1 x y) (hM : cx_M h' ρ') (hh : ∀ x y, ¬ (19 ≤ x ∧ x ≤ 39) → ¬ (x = 11 ∧ y = 6) → h'.1 x y = h.1 x y) : ∃ h2, fX7_settle h' = some h2 ∧ h2.1 = h'.1 ∧ sp_V ρ' ∧ CX h2 ρ' := by
  have k : ∀ x, x ≠ 84 → x ≠ 85 → x ≠ 86 → x ≠ 73 → ρ'.1 x = ρ.1 x := fun x a b c d => funext fun y => hρ x y a b c (by omega)
  have k4 := k 74 (by omega) (by omega) (by omega) (by omega)
  have k5 := k 75 (by omega) (by omega) (by omega) (by omega)
  have v1 := V1_e k4 k5 hv.1
  have v3 : sp_V3 ρ' := V3_e (k 90 (by omega) (by omega) (by omega) (by omega)) (k 91 (by omega) (by omega) (by omega) (by omega)) (k 92 (by omega) (by omega) (by omega) (by omega)) (hρ 73 21 (by omega) (by omega) (by omega) (by omega)) hv.2.2.1
  have v4 : sp_V4 ρ' := V4_e (k 93 (by omega) (by omega) (by omega) (by omega)) (k 94 (by omega) (by omega) (by omega) (by omega)) (k 95 (by omega) (by omega) (by omega) (by omega)) hv.2.2.2
  obtain ⟨h2, e1, e2, e3⟩ := settle_c v1 hv2 (h := h') ⟨T_of (T_e k4 k5 c.T) (fun x y _ _ => hh x y (by omega) (by omega)), P_of (cP_e k4 k5 c.P) (fun x y _ => hh x y (by omega) (by omega)), N_of (cN_e k4 k5 c.N) (fun x y _ => hh x y (by omega) (by omega)), D_of (cD_e k4 k5 c.D) (fun x y _ => hh x y (by omega) (by omega)), hM, S_of (S_e (k 90 (by omega) (by omega) (by omega) (by omega)) (k 91 (by omega) (by omega) (by omega) (by omega)) (k 92 (by omega) (by omega) (by omega) (by omega)) (hρ 73 21 (by omega) (by omega) (by omega) (by omega)) c.S) (fun x y _ => hh x y (by omega) (by omega)), H_of (H_e (k 93 (by omega) (by omega) (by omega) (by omega)) (k 94 (by omega) (by omega) (by omega) (by omega)) (k 95 (by omega) (by omega) (by omega) (by omega)) (k 96 (by omega) (by omega) (by omega) (by omega)) c.H) (fun x y _ _ => hh x y (by omega) (by omega)), by rw [hh 0 7 (by omega) (by omega), hρ 73 30 (by omega) (by omega) (by omega) (by omega)]; exact c.F⟩
  exact ⟨h2, e1, e2, ⟨v1, hv2, v3, v4⟩, e3⟩
theorem zr_of {ρ : fd_H} {z : Nat} (h : ρ.1 73 13 = nI z) (hz : z < 2147483648) : sp_zr ρ = z := by unfold sp_zr; rw [h]; exact nI_clamp hz
theorem mc_of {ρ : fd_H} {k z : Nat} (h : ρ.1 84 k = nI z) (hz : z < 2147483648) : sp_mc ρ k = z := by unfold sp_mc; rw [h]; exact nI_clamp hz
theorem mn_of {ρ : fd_H} {k i z : Nat} (h : ρ.1 85 (8 * k + i) = nI z) (hz : z < 2147483648) : sp_mn ρ k i = z := by unfold sp_mn; rw [h]; exact nI_clamp hz
theorem mp_of {ρ : fd_H} {k i z : Nat} (h : ρ.1 86 (8 * k + i) = nI z) (hz : z < 2147483648) : sp_mp ρ k i = z := by unfold sp_mp; rw [h]; exact nI_clamp hz
theorem q_zero : pp_zero RR := by
  intro hx hm a ⟨ρ, hr, hv, hc⟩
  unfold fX8_zero fX9_zero
  rw [show (26 : Int32) = nI 26 from rfl, show (25 : Int32) = nI 25 from rfl]
  rcases below_cases a (n := 26) (by omega) with ⟨z, hz, rfl⟩ | h
  · have ez : sp_zr (fd_ui ρ 73 13 (nI z)) = z := zr_of ui_s (by omega)
    have e4 : (fd_ui ρ 73 13 (nI z)).1 84 = ρ.1 84 := fd_ui_ne 84 (by omega)
    have e5 : (fd_ui ρ 73 13 (nI z)).1 85 = ρ.1 85 := fd_ui_ne 85 (by omega)
    have e6 : (fd_ui ρ 73 13 (nI z)).1 86 = ρ.1 86 := fd_ui_ne 86 (by omega)
    have em : sp_mc (fd_ui ρ 73 13 (nI z)) = sp_mc ρ := by funext k; unfold sp_mc; rw [e4]
    have en : sp_mn (fd_ui ρ 73 13 (nI z)) = sp_mn ρ := by funext k i; unfold sp_mn; rw [e5]
    have ep : sp_mp (fd_ui ρ 73 13 (nI z)) = sp_mp ρ := by funext k i; unfold sp_mp; rw [e6]
    obtain ⟨h2, a1, a2, a3, a4⟩ := mark_c (h' := fd_ui hx 11 6 (nI z)) (ρ' := fd_ui ρ 73 13 (nI z)) hv hc (by
        unfold sp_V2
        rw [ez, em, en, ep, e4, e5, e6]
        exact ⟨ui_s, by omega, hv.2.1.2.2⟩) (fun x y _ _ _ n => ui_g (by omega)) (by
        unfold cx_M
        rw [ez, em, en, ep]
        refine ⟨ui_s, fun k hk => ?_⟩
        obtain ⟨b1, b2⟩ := hc.M.2 k hk
        refine ⟨by rw [ui_g (by omega)]; exact b1, fun i hi => ?_⟩
        rw [ui_g (by omega), ui_g (by omega)]
        exact b2 i hi) (fun x y _ n => ui_g (by omega))
    rw [below_y hz (by omega), mbelow_y (by omega) (by omega), Option.bind_some, Option.bind_some, if_pos rfl, if_pos rfl, fd_lt, fd_lt, fd_lt, fd_lt, a1, hc.M.1, raw_get hr 73 13 rfl, hv.2.1.1]
    exact ⟨_, h2, _, rfl, rfl, _, raw_set hr rfl, a3, a4⟩
  · rw [below_n h, mbelow_n (by omega) h]
    exact ⟨_, hx, hm, rfl, rfl, ρ, hr, hv, hc⟩
theorem q_back : pp_back RR := by
  intro hx hm a ⟨ρ, hr, hv, hc⟩
  unfold fX8_back fX9_back
  rw [show (3 : Int32) = nI 3 from rfl, show (2 : Int32) = nI 2 from rfl]
  rcases below_cases a (n := 3) (by omega) with ⟨k, hk, rfl⟩ | h
  · obtain ⟨m1, m2, m3⟩ := hv.2.1.2.2 k hk
    have em : (if nI k = 0 then fX8_back_L47 (nI k) 19 hx else if nI k = 1 then fX8_back_L47 (nI k) 26 hx else fX8_back_L47 (nI k) 33 hx) = fX8_back_L47 (nI k) (19 + 7 * k) hx := by
      rcases (show k = 0 ∨ k = 1 ∨ k = 2 by omega) with rfl | rfl | rfl <;> rfl
    rw [below_y hk (by omega), mbelow_y (by omega) (by omega), Option.bind_some, Option.bind_some, if_pos rfl, if_pos rfl, em, in_nI hk (by omega), fd_g, if_pos rfl, fd_g, if_pos rfl, fd_g, if_pos rfl, fd_lt, fd_g, if_pos rfl, nI_clamp (by omega), raw_get hr 84 k rfl, m1]
    unfold fX8_back_L47
    rw [(hc.M.2 k hk).1]
    rcases Nat.eq_zero_or_pos (sp_mc ρ k) with q | q
    · rw [q, if_pos (by decide), if_pos (by decide)]
      exact ⟨_, hx, hm, rfl, rfl, ρ, hr, hv, hc⟩
    · obtain ⟨L, hL⟩ : ∃ L, sp_mc ρ k = L + 1 := ⟨sp_mc ρ k - 1, by omega⟩
      have n0 : ¬ nI (L + 1) = 0 := nI_ne (b := 0) (by omega) (by omega) (by omega)
      have ec : ∀ s, s < 3 → sp_mc (fd_ui ρ 84 k (nI L)) s = if s = k then L else sp_mc ρ s := by
        intro s hs
        by_cases q : s = k
        · subst q; rw [if_pos rfl]; exact mc_of ui_s (by omega)
        · rw [if_neg q]; unfold sp_mc; rw [ui_g (by omega)]
      have e5 : (fd_ui ρ 84 k (nI L)).1 85 = ρ.1 85 := fd_ui_ne 85 (by omega)
      have e6 : (fd_ui ρ 84 k (nI L)).1 86 = ρ.1 86 := fd_ui_ne 86 (by omega)
      have en : sp_mn (fd_ui ρ 84 k (nI L)) = sp_mn ρ := by funext k i; unfold sp_mn; rw [e5]
      have ep : sp_mp (fd_ui ρ 84 k (nI L)) = sp_mp ρ := by funext k i; unfold sp_mp; rw [e6]
      have ez : sp_zr (fd_ui ρ 84 k (nI L)) = sp_zr ρ := by unfold sp_zr; rw [ui_g (by omega)]
      obtain ⟨h2, a1, a2, a3, a4⟩ := mark_c (h' := fd_ui hx (19 + 7 * k) 3 (nI L)) (ρ' := fd_ui ρ 84 k (nI L)) hv hc (by
          unfold sp_V2
          rw [ez, en, ep, e5, e6, ui_g (by omega)]
          refine ⟨hv.2.1.1, hv.2.1.2.1, fun s hs => ?_⟩
          obtain ⟨b1, b2, b3⟩ := hv.2.1.2.2 s hs
          rw [ec s hs]
          by_cases q : s = k
          · subst q
            rw [if_pos rfl, ui_s]
            exact ⟨rfl, by omega, fun i hi => b3 i (by omega)⟩
          · rw [if_neg q, ui_g (by omega)]
            exact ⟨b1, b2, b3⟩) (fun x y _ _ _ n => ui_g (by omega)) (by
          unfold cx_M
          rw [ez, en, ep, ui_g (by omega)]
          refine ⟨hc.M.1, fun s hs => ?_⟩
          obtain ⟨b1, b2⟩ := hc.M.2 s hs
          rw [ec s hs]
          by_cases q : s = k
          · subst q
            rw [if_pos rfl, ui_s]
            refine ⟨rfl, fun i hi => ?_⟩
            rw [ui_g (by omega), ui_g (by omega)]
            exact b2 i (by omega)
          · rw [if_neg q, ui_g (by omega)]
            refine ⟨b1, fun i hi => ?_⟩
            rw [ui_g (by omega), ui_g (by omega)]
            exact b2 i hi) (fun x y n _ => ui_g (by omega))
      rw [hL, if_neg n0, if_neg n0, m_one, fd_lt, a1, Option.bind_some, a2, ui_s, ui_s]
      exact ⟨_, h2, _, rfl, rfl, _, raw_set hr rfl, a3, a4⟩
  · rw [below_n h, mbelow_n (by omega) h]
    exact ⟨_, hx, hm, rfl, rfl, ρ, hr, hv, hc⟩
/-- one more mark -/
theorem more_c {hx hm ρ : fd_H} {k n p : Nat} (hr : sp_raw hm = ρ) (hv : sp_V ρ) (hc : CX hx ρ) (hk : k < 3) (hn : n < 40) (hp : p < 8) (hk0 : k = 0 → p = 0) : ∃ r hx' hm', fX8_addMark (19 + 7 * k) (nI n) (nI p) hx = some (r, hx') ∧ fX9_more (nI k) (nI n) (nI p) hm = some (r, hm') ∧ RR hx' hm' := by
  obtain ⟨m1, m2, m3⟩ := hv.2.1.2.2 k hk
  unfold fX8_addMark fX1_add fX9_more
  rw [isForty_y hn, Option.bind_some, if_pos rfl, isEight_y hp, Option.bind_some, if_pos rfl, in_nI hk (by omega), fd_g, if_pos rfl, nI_clamp (by omega), raw_get hr 84 k rfl, m1, (hc.M.2 k hk).1, show (8 : Int32) = nI 8 from rfl]
  by_cases q : sp_mc ρ k = 8
  · rw [q, if_neg (nI_nlt (Nat.le_refl 8) (by omega)), if_pos rfl]
    exact ⟨_, hx, hm, rfl, rfl, ρ, hr, hv, hc⟩
  · have em : nI 8 * nI k + nI (sp_mc ρ k) = nI (8 * k + sp_mc ρ k) := by rw [pk_mul, nI_add]
    generalize hL : sp_mc ρ k = L at *
    generalize hρ' : fd_ui (fd_ui (fd_ui ρ 85 (8 * k + L) (nI n)) 86 (8 * k + L) (nI p)) 84 k (nI (L + 1)) = ρ'
    generalize hh' : fd_ui (fd_ui (fd_ui (fd_ui hx (21 + 7 * k) L (nI n)) (23 + 7 * k) L (nI p)) (25 + 7 * k) L 1) (19 + 7 * k) 3 (nI (L + 1)) = h'
    have ec : ∀ s, s < 3 → sp_mc ρ' s = if s = k then L + 1 else sp_mc ρ s := by
      intro s hs
      by_cases q : s = k
      · subst q; rw [if_pos rfl]; exact mc_of (by rw [← hρ', ui_s]) (by omega)
      · rw [if_neg q, ← hρ']; unfold sp_mc; rw [ui_g (by omega), ui_g (by omega), ui_g (by omega)]
    have e85 : ∀ s i, s < 3 → i < 8 → ρ'.1 85 (8 * s + i) = if s = k ∧ i = L then nI n else ρ.1 85 (8 * s + i) := by
      intro s i hs hi
      rw [← hρ', ui_g (by omega), ui_g (by omega)]
      by_cases q : s = k ∧ i = L
      · rw [if_pos q, q.1, q.2, ui_s]
      · rw [if_neg q, ui_g (by omega)]
    have e86 : ∀ s i, s < 3 → i < 8 → ρ'.1 86 (8 * s + i) = if s = k ∧ i = L then nI p else ρ.1 86 (8 * s + i) := by
      intro s i hs hi
      rw [← hρ', ui_g (by omega)]
      by_cases q : s = k ∧ i = L
      · rw [if_pos q, q.1, q.2, ui_s]
      · rw [if_neg q, ui_g (by omega), ui_g (by omega)]
    have en : ∀ s i, s < 3 → i < 8 → sp_mn ρ' s i = if s = k ∧ i = L then n else sp_mn ρ s i := by
      intro s i hs hi
      by_cases q : s = k ∧ i = L
      · rw [if_pos q]; exact mn_of (by rw [e85 s i hs hi, if_pos q]) (by omega)
      · rw [if_neg q]; unfold sp_mn; rw [e85 s i hs hi, if_neg q]
    have ep : ∀ s i, s < 3 → i < 8 → sp_mp ρ' s i = if s = k ∧ i = L then p else sp_mp ρ s i := by
      intro s i hs hi
      by_cases q : s = k ∧ i = L
      · rw [if_pos q]; exact mp_of (by rw [e86 s i hs hi, if_pos q]) (by omega)
      · rw [if_neg q]; unfold sp_mp; rw [e86 s i hs hi, if_neg q]
    have ez : sp_zr ρ' = sp_zr ρ := by rw [← hρ']; unfold sp_zr; rw [ui_g (by omega), ui_g (by omega), ui_g (by omega)]
    obtain ⟨h2, a1, a2, a3, a4⟩ := mark_c (h' := h') (ρ' := ρ') hv hc (by
        refine ⟨by rw [ez, ← hρ', ui_g (by omega), ui_g (by omega), ui_g (by omega)]; exact hv.2.1.1, by rw [ez]; exact hv.2.1.2.1, fun s hs => ?_⟩
        obtain ⟨b1, b2, b3⟩ := hv.2.1.2.2 s hs
        rw [ec s hs]
        by_cases q : s = k
        · subst q
          rw [if_pos rfl]
          refine ⟨by rw [← hρ', ui_s], by omega, fun i hi => ?_⟩
          rw [e85 s i hs (by omega), e86 s i hs (by omega), en s i hs (by omega), ep s i hs (by omega)]
          by_cases qi : i = L
          · rw [if_pos ⟨rfl, qi⟩, if_pos ⟨rfl, qi⟩, if_pos ⟨rfl, qi⟩, if_pos ⟨rfl, qi⟩]; exact ⟨⟨rfl, hn⟩, rfl, hp, hk0⟩
          · rw [if_neg (fun z => qi z.2), if_neg (fun z => qi z.2), if_neg (fun z => qi z.2), if_neg (fun z => qi z.2)]; exact b3 i (by omega)
        · rw [if_neg q]
          refine ⟨by rw [← hρ', ui_g (by omega), ui_g (by omega), ui_g (by omega)]; exact b1, b2, fun i hi => ?_⟩
          rw [e85 s i hs (by omega), e86 s i hs (by omega), en s i hs (by omega), ep s i hs (by omega), if_neg (fun z => q z.1), if_neg (fun z => q z.1), if_neg (fun z => q z.1), if_neg (fun z => q z.1)]
          exact b3 i hi) (fun x y _ _ _ n => by rw [← hρ', ui_g (by omega), ui_g (by omega), ui_g (by omega)]) (by
        refine ⟨by rw [ez, ← hh', ui_g (by omega), ui_g (by omega), ui_g (by omega), ui_g (by omega)]; exact hc.M.1, fun s hs => ?_⟩
        obtain ⟨b1, b2⟩ := hc.M.2 s hs
        have b8 := (hv.2.1.2.2 s hs).2.1
        rw [ec s hs]
        by_cases q : s = k
        · subst q
          rw [if_pos rfl]
          refine ⟨by rw [← hh', ui_s], fun i hi => ?_⟩
          rw [en s i hs (by omega), ep s i hs (by omega)]
          by_cases qi : i = L
          · rw [if_pos ⟨rfl, qi⟩, if_pos ⟨rfl, qi⟩, ← hh', qi]
            exact ⟨by rw [ui_g (by omega), ui_g (by omega), ui_g (by omega), ui_s], by rw [ui_g (by omega), ui_g (by omega), ui_s]⟩
          · rw [if_neg (fun z => qi z.2), if_neg (fun z => qi z.2), ← hh', ui_g (by omega), ui_g (by omega), ui_g (by omega), ui_g (by omega), ui_g (by omega), ui_g (by omega), ui_g (by omega), ui_g (by omega)]
            exact b2 i (by omega)
        · rw [if_neg q]
          refine ⟨by rw [← hh', ui_g (by omega), ui_g (by omega), ui_g (by omega), ui_g (by omega)]; exact b1, fun i hi => ?_⟩
          rw [en s i hs (by omega), ep s i hs (by omega), if_neg (fun z => q z.1), if_neg (fun z => q z.1), ← hh', ui_g (by omega), ui_g (by omega), ui_g (by omega), ui_g (by omega), ui_g (by omega), ui_g (by omega), ui_g (by omega), ui_g (by omega)]
          exact b2 i hi) (fun x y n _ => by rw [← hh', ui_g (by omega), ui_g (by omega), ui_g (by omega), ui_g (by omega)])
    have gx : ∀ (z : fd_H), (∀ x, x ≠ 19 + 7 * k → True) → True := fun _ _ => trivial
    have f0 := (hc.M.2 k hk).1
    rw [hL] at f0
    rw [if_pos (nI_lt (by omega) (by omega)), set_in (by omega) (by omega), Option.bind_some, show 19 + 7 * k + 1 + 1 = 21 + 7 * k by omega, show (fd_ui hx (21 + 7 * k) L (nI n)).1 (19 + 7 * k) 3 = nI L by rw [ui_g (by omega), f0], set_in (by omega) (by omega), Option.bind_some, show 19 + 7 * k + 3 + 1 = 23 + 7 * k by omega, show (fd_ui (fd_ui hx (21 + 7 * k) L (nI n)) (23 + 7 * k) L (nI p)).1 (19 + 7 * k) 3 = nI L by rw [ui_g (by omega), ui_g (by omega), f0], set_in (by omega) (by omega), Option.bind_some, show 19 + 7 * k + 5 + 1 = 25 + 7 * k by omega, fd_lt, show (fd_ui (fd_ui (fd_ui hx (21 + 7 * k) L (nI n)) (23 + 7 * k) L (nI p)) (25 + 7 * k) L 1).1 (19 + 7 * k) 3 = nI L by rw [ui_g (by omega), ui_g (by omega), ui_g (by omega), f0], nI_1, hh', Option.bind_some]; dsimp only
    rw [if_pos rfl, a1, Option.bind_some, a2, show h'.1 (19 + 7 * k) 3 = nI (L + 1) by rw [← hh', ui_s], if_neg (nI_ne q (by omega) (by omega)), fd_g, if_pos rfl, em, in_nI (by omega) (by omega), fd_g, if_pos rfl, fd_lt, nI_clamp (by omega), fd_g, if_pos rfl, show (fd_ui hm 85 (8 * k + L) (nI n)).1 84 k = nI L by rw [ui_g (by omega), raw_get hr 84 k rfl, m1], em, in_nI (by omega) (by omega), fd_g, if_pos rfl, fd_lt, nI_clamp (by omega), fd_g, if_pos rfl, fd_g, if_pos rfl, fd_lt, show (fd_ui (fd_ui hm 85 (8 * k + L) (nI n)) 86 (8 * k + L) (nI p)).1 84 k = nI L by rw [ui_g (by omega), ui_g (by omega), raw_get hr 84 k rfl, m1], nI_1, fd_g, if_pos rfl, ui_s]
    exact ⟨_, h2, _, rfl, rfl, ρ', by rw [← hρ']; exact raw_set (raw_set (raw_set hr rfl) rfl) rfl, a3, a4⟩
