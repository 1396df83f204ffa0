/-! ===== cloud smoke ice; seen forget count ===== -/
theorem q_cloud : pp_cloud RR := by
  intro hx hm a ⟨ρ, hr, hv, hc⟩
  unfold fX8_cloud fX9_cloud
  rcases below_cases a (n := 40) (by omega) with ⟨n, hn, rfl⟩ | h
  · obtain ⟨r, hx', hm', e1, e2, e3⟩ := more_c hr hv hc (k := 0) (p := 0) (by omega) hn (by omega) (fun _ => rfl)
    have e1 : fX8_addMark 19 (nI n) 0 hx = some (r, hx') := e1
    have e2 : fX9_more 0 (nI n) 0 hm = some (r, hm') := e2
    rw [show (40 : Int32) = nI 40 from rfl, below_y hn (by omega), Option.bind_some, if_pos rfl, e1, e2]
    exact ⟨_, hx', hm', rfl, rfl, e3⟩
  · unfold fX9_more
    rw [show (40 : Int32) = nI 40 from rfl, below_n h, isForty_n h]
    exact ⟨_, hx, hm, rfl, rfl, ρ, hr, hv, hc⟩
theorem q_smoke : pp_smoke RR := by
  intro hx hm a b ⟨ρ, hr, hv, hc⟩
  unfold fX8_smoke fX9_smoke
  rw [show (40 : Int32) = nI 40 from rfl, show (8 : Int32) = nI 8 from rfl]
  rcases below_cases a (n := 40) (by omega) with ⟨n, hn, rfl⟩ | h
  · rw [below_y hn (by omega), Option.bind_some, if_pos rfl]
    rcases below_cases b (n := 8) (by omega) with ⟨p, hp, rfl⟩ | h2
    · obtain ⟨r, hx', hm', e1, e2, e3⟩ := more_c hr hv hc (k := 1) (by omega) hn hp (fun q => by omega)
      have e1 : fX8_addMark 26 (nI n) (nI p) hx = some (r, hx') := e1
      have e2 : fX9_more 1 (nI n) (nI p) hm = some (r, hm') := e2
      rw [below_y hp (by omega), Option.bind_some, if_pos rfl, e1, e2]
      exact ⟨_, hx', hm', rfl, rfl, e3⟩
    · unfold fX9_more
      rw [below_n h2, isForty_y hn, isEight_n h2]
      exact ⟨_, hx, hm, rfl, rfl, ρ, hr, hv, hc⟩
  · unfold fX9_more
    rw [below_n h, isForty_n h]
    exact ⟨_, hx, hm, rfl, rfl, ρ, hr, hv, hc⟩
theorem q_ice : pp_ice RR := by
  intro hx hm a b ⟨ρ, hr, hv, hc⟩
  unfold fX8_ice fX9_ice
  rw [show (40 : Int32) = nI 40 from rfl, show (8 : Int32) = nI 8 from rfl]
  rcases below_cases a (n := 40) (by omega) with ⟨n, hn, rfl⟩ | h
  · rw [below_y hn (by omega), Option.bind_some, if_pos rfl]
    rcases below_cases b (n := 8) (by omega) with ⟨p, hp, rfl⟩ | h2
    · obtain ⟨r, hx', hm', e1, e2, e3⟩ := more_c hr hv hc (k := 2) (by omega) hn hp (fun q => by omega)
      have e1 : fX8_addMark 33 (nI n) (nI p) hx = some (r, hx') := e1
      have e2 : fX9_more 2 (nI n) (nI p) hm = some (r, hm') := e2
      rw [below_y hp (by omega), Option.bind_some, if_pos rfl, e1, e2]
      exact ⟨_, hx', hm', rfl, rfl, e3⟩
    · unfold fX9_more
      rw [below_n h2, isForty_y hn, isEight_n h2]
      exact ⟨_, hx, hm, rfl, rfl, ρ, hr, hv, hc⟩
  · unfold fX9_more
    rw [below_n h, isForty_n h]
    exact ⟨_, hx, hm, rfl, rfl, ρ, hr, hv, hc⟩
/-- cells that texts and weather do not look at -/
theorem aside_c {h h' ρ ρ' : fd_H} (hv : sp_V ρ) (c : CX h ρ) (hv3 : sp_V3 ρ') (hv4 : sp_V4 ρ') (hρ : ∀ x y, x < 87 → ¬ (x = 73 ∧ y = 21) → ¬ (x = 73 ∧ y = 30) → ρ'.1 x y = ρ.1 x y) (hS : cx_S h' ρ') (hH : cx_H h' ρ') (hF : h'.1 0 7 = ρ'.1 73 30) (hh : ∀ x y, x < 51 → ¬ (x = 0) → h'.1 x y = h.1 x y) (h2 : ∀ x y, x ≠ 59 → h'.2 x y = h.2 x y) : sp_V ρ' ∧ CX h' ρ' := by
  have k : ∀ x, x < 87 → x ≠ 73 → ρ'.1 x = ρ.1 x := fun x a d => funext fun y => hρ x y a (by omega) (by omega)
  have k4 := k 74 (by omega) (by omega)
  have k5 := k 75 (by omega) (by omega)
  have m1 := k 84 (by omega) (by omega)
  have m2 := k 85 (by omega) (by omega)
  have m3 := k 86 (by omega) (by omega)
  have m4 := hρ 73 13 (by omega) (by omega) (by omega)
  exact ⟨⟨V1_e k4 k5 hv.1, V2_e m1 m2 m3 m4 hv.2.1, hv3, hv4⟩, T_of (T_e k4 k5 c.T) (fun x y _ _ => hh x y (by omega) (by omega)), P_of (cP_e k4 k5 c.P) (fun x y _ => hh x y (by omega) (by omega)), N_of (cN_e k4 k5 c.N) (fun x y _ => hh x y (by omega) (by omega)), D_of (cD_e k4 k5 c.D) (fun x y _ => hh x y (by omega) (by omega)), M_of (M_e m1 m2 m3 m4 c.M) (fun x y _ => hh x y (by omega) (by omega)), W_of (W_e k4 k5 m1 m2 m3 m4 c.W) (fun x y _ => h2 x y (by omega)), hS, hH, hF⟩
theorem sc_of {ρ : fd_H} {z : Nat} (h : ρ.1 73 21 = nI z) (hz : z < 2147483648) : sp_sc ρ = z := by unfold sp_sc; rw [h]; exact nI_clamp hz
theorem sn_of {ρ : fd_H} {i z : Nat} (h : ρ.1 90 i = nI z) (hz : z < 2147483648) : sp_sn ρ i = z := by unfold sp_sn; rw [h]; exact nI_clamp hz
theorem sp_of {ρ : fd_H} {i z : Nat} (h : ρ.1 91 i = nI z) (hz : z < 2147483648) : sp_sp ρ i = z := by unfold sp_sp; rw [h]; exact nI_clamp hz
theorem si_of {ρ : fd_H} {i z : Nat} (h : ρ.1 92 i = nI z) (hz : z < 2147483648) : sp_si ρ i = z := by unfold sp_si; rw [h]; exact nI_clamp hz
theorem q_forget : pp_forget RR := by
  intro hx hm ⟨ρ, hr, hv, hc⟩
  unfold fX8_forget fX9_forget
  rw [fd_lt, fd_lt, fd_lt, fd_lt, hc.S.1, raw_get hr 73 21 rfl, hv.2.2.1.1]
  have e0 : sp_sc (fd_ui ρ 73 21 0) = 0 := sc_of ui_s (by omega)
  have q := aside_c (h' := fd_ui hx 51 3 0) (ρ' := fd_ui ρ 73 21 0) hv hc (by
      unfold sp_V3
      rw [e0]
      exact ⟨ui_s, by omega, fun i hi => absurd hi (Nat.not_lt_zero i)⟩) (V4_e (fd_ui_ne 93 (by omega)) (fd_ui_ne 94 (by omega)) (fd_ui_ne 95 (by omega)) hv.2.2.2) (fun x y _ n _ => ui_g (by omega)) (by
      unfold cx_S
      rw [e0]
      exact ⟨ui_s, fun i hi => absurd hi (Nat.not_lt_zero i)⟩) (H_of (H_e (fd_ui_ne 93 (by omega)) (fd_ui_ne 94 (by omega)) (fd_ui_ne 95 (by omega)) (fd_ui_ne 96 (by omega)) hc.H) (fun x y _ _ => ui_g (by omega))) (by rw [ui_g (by omega), ui_g (by omega)]; exact hc.F) (fun x y _ _ => ui_g (by omega)) (fun x y _ => rfl)
  exact ⟨_, _, _, rfl, rfl, _, raw_set hr rfl, q.1, q.2⟩
theorem seen_eq {hx hm : fd_H} (a b s : Int32) (hR : RR hx hm) : ∃ r hx' hm', fX8_seen a b s hx = some (r, hx') ∧ fX9_seen a b s hm = some (r, hm') ∧ RR hx' hm' ∧ (r = -2 ∨ r = -4 ∨ ∃ k, k < 8 ∧ r = nI (k + 1)) := by
  obtain ⟨ρ, hr, hv, hc⟩ := hR
  unfold fX8_seen fX9_seen
  rw [show (40 : Int32) = nI 40 from rfl, show (2 : Int32) = nI 2 from rfl, show (1 : Int32) = nI 1 from rfl, show (8 : Int32) = nI 8 from rfl]
  rcases below_cases a (n := 40) (by omega) with ⟨n, hn, rfl⟩ | h
  · rw [below_y hn (by omega), isForty_y hn, Option.bind_some, Option.bind_some, if_pos rfl, if_pos rfl]
    rcases below_cases b (n := 8) (by omega) with ⟨p, hp, rfl⟩ | h2
    · rw [below_y hp (by omega), isEight_y hp, Option.bind_some, Option.bind_some, if_pos rfl, if_pos rfl]
      rcases below_cases s (n := 2) (by omega) with ⟨s, hs, rfl⟩ | h3
      · obtain ⟨v1, v2, v3⟩ := hv.2.2.1
        rw [below_y hs (by omega), mbelow_y (by omega) (by omega), Option.bind_some, Option.bind_some, if_pos rfl, if_pos rfl, raw_get hr 73 21 rfl, v1]
        unfold fX1_add
        rw [hc.S.1, show (8 : Int32) = nI 8 from rfl]
        by_cases q : sp_sc ρ = 8
        · rw [q, if_neg (nI_nlt (Nat.le_refl 8) (by omega)), if_pos rfl]
          exact ⟨_, hx, hm, rfl, rfl, ⟨ρ, hr, hv, hc⟩, Or.inr (Or.inl rfl)⟩
        · generalize hL : sp_sc ρ = L at *
          generalize hρ' : fd_ui (fd_ui (fd_ui (fd_ui ρ 90 L (nI n)) 91 L (nI p)) 92 L (nI s)) 73 21 (nI (L + 1)) = ρ'
          generalize hh' : fd_ui (fd_ui (fd_ui (fd_ui hx 53 L (nI n)) 55 L (nI p)) 57 L (nI s)) 51 3 (nI (L + 1)) = h'
          have ec : sp_sc ρ' = L + 1 := sc_of (by rw [← hρ', ui_s]) (by omega)
          have e90 : ∀ i, ρ'.1 90 i = if i = L then nI n else ρ.1 90 i := by
            intro i
            rw [← hρ', ui_g (by omega), ui_g (by omega), ui_g (by omega)]
            by_cases q : i = L
            · rw [if_pos q, q, ui_s]
            · rw [if_neg q, ui_g (by omega)]
          have e91 : ∀ i, ρ'.1 91 i = if i = L then nI p else ρ.1 91 i := by
            intro i
            rw [← hρ', ui_g (by omega), ui_g (by omega)]
            by_cases q : i = L
            · rw [if_pos q, q, ui_s]
            · rw [if_neg q, ui_g (by omega), ui_g (by omega)]
          have e92 : ∀ i, ρ'.1 92 i = if i = L then nI s else ρ.1 92 i := by
            intro i
            rw [← hρ', ui_g (by omega)]
            by_cases q : i = L
            · rw [if_pos q, q, ui_s]
            · rw [if_neg q, ui_g (by omega), ui_g (by omega), ui_g (by omega)]
          have en : ∀ i, sp_sn ρ' i = if i = L then n else sp_sn ρ i := by
            intro i
            by_cases q : i = L
            · rw [if_pos q]; exact sn_of (by rw [e90, if_pos q]) (by omega)
            · rw [if_neg q]; unfold sp_sn; rw [e90, if_neg q]
          have ep : ∀ i, sp_sp ρ' i = if i = L then p else sp_sp ρ i := by
            intro i
            by_cases q : i = L
            · rw [if_pos q]; exact sp_of (by rw [e91, if_pos q]) (by omega)
            · rw [if_neg q]; unfold sp_sp; rw [e91, if_neg q]
          have ei : ∀ i, sp_si ρ' i = if i = L then s else sp_si ρ i := by
            intro i
            by_cases q : i = L
            · rw [if_pos q]; exact si_of (by rw [e92, if_pos q]) (by omega)
            · rw [if_neg q]; unfold sp_si; rw [e92, if_neg q]
          have kk : ∀ x, 93 ≤ x → ρ'.1 x = ρ.1 x := fun x a => funext fun y => by rw [← hρ', ui_g (by omega), ui_g (by omega), ui_g (by omega), ui_g (by omega)]
          have g := aside_c (h' := h') (ρ' := ρ') hv hc (by
              unfold sp_V3
              rw [ec]
              refine ⟨by rw [← hρ', ui_s], by omega, fun i hi => ?_⟩
              rw [e90, e91, e92, en, ep, ei]
              by_cases qi : i = L
              · rw [if_pos qi, if_pos qi, if_pos qi, if_pos qi, if_pos qi, if_pos qi]; exact ⟨⟨rfl, hn⟩, ⟨rfl, hp⟩, rfl, hs⟩
              · rw [if_neg qi, if_neg qi, if_neg qi, if_neg qi, if_neg qi, if_neg qi]; exact v3 i (by omega)) (V4_e (kk 93 (by omega)) (kk 94 (by omega)) (kk 95 (by omega)) hv.2.2.2) (fun x y _ _ _ => by rw [← hρ', ui_g (by omega), ui_g (by omega), ui_g (by omega), ui_g (by omega)]) (by
              unfold cx_S
              rw [ec]
              refine ⟨by rw [← hh', ui_s], fun i hi => ?_⟩
              rw [en, ep, ei]
              by_cases qi : i = L
              · rw [if_pos qi, if_pos qi, if_pos qi, ← hh', qi]
                exact ⟨by rw [ui_g (by omega), ui_g (by omega), ui_g (by omega), ui_s], by rw [ui_g (by omega), ui_g (by omega), ui_s], by rw [ui_g (by omega), ui_s]⟩
              · have b := hc.S.2 i (by omega)
                rw [if_neg qi, if_neg qi, if_neg qi, ← hh']
                exact ⟨by rw [ui_g (by omega), ui_g (by omega), ui_g (by omega), ui_g (by omega)]; exact b.1, by rw [ui_g (by omega), ui_g (by omega), ui_g (by omega), ui_g (by omega)]; exact b.2.1, by rw [ui_g (by omega), ui_g (by omega), ui_g (by omega), ui_g (by omega)]; exact b.2.2⟩) (H_of (H_e (kk 93 (by omega)) (kk 94 (by omega)) (kk 95 (by omega)) (kk 96 (by omega)) hc.H) (fun x y _ _ => by rw [← hh', ui_g (by omega), ui_g (by omega), ui_g (by omega), ui_g (by omega)])) (by rw [← hh', ← hρ', ui_g (by omega), ui_g (by omega), ui_g (by omega), ui_g (by omega), ui_g (by omega), ui_g (by omega), ui_g (by omega), ui_g (by omega)]; exact hc.F) (fun x y _ _ => by rw [← hh', ui_g (by omega), ui_g (by omega), ui_g (by omega), ui_g (by omega)]) (fun x y _ => by rw [← hh']; rfl)
          have f0 := hc.S.1
          rw [hL] at f0
          rw [if_pos (nI_lt (by omega) (by omega)), set_in (by omega) (by omega), Option.bind_some, show (fd_ui hx (51 + 1 + 1) L (nI n)).1 51 3 = nI L by rw [ui_g (by omega), f0], set_in (by omega) (by omega), Option.bind_some, show (fd_ui (fd_ui hx (51 + 1 + 1) L (nI n)) (51 + 3 + 1) L (nI p)).1 51 3 = nI L by rw [ui_g (by omega), ui_g (by omega), f0], set_in (by omega) (by omega), Option.bind_some, fd_lt, show (fd_ui (fd_ui (fd_ui hx (51 + 1 + 1) L (nI n)) (51 + 3 + 1) L (nI p)) (51 + 5 + 1) L (nI s)).1 51 3 = nI L by rw [ui_g (by omega), ui_g (by omega), ui_g (by omega), f0], nI_1, hh', Option.bind_some]; dsimp only
          rw [if_pos rfl, show h'.1 51 3 = nI (L + 1) by rw [← hh', ui_s], if_neg (nI_ne q (by omega) (by omega)), in_nI (by omega) (by omega), fd_g, if_pos rfl, fd_lt, nI_clamp (by omega), show (fd_ui hm 90 L (nI n)).1 73 21 = nI L by rw [ui_g (by omega), raw_get hr 73 21 rfl, v1], in_nI (by omega) (by omega), fd_g, if_pos rfl, fd_lt, nI_clamp (by omega), show (fd_ui (fd_ui hm 90 L (nI n)) 91 L (nI p)).1 73 21 = nI L by rw [ui_g (by omega), ui_g (by omega), raw_get hr 73 21 rfl, v1], in_nI (by omega) (by omega), fd_g, if_pos rfl, fd_lt, nI_clamp (by omega), fd_lt, show (fd_ui (fd_ui (fd_ui hm 90 L (nI n)) 91 L (nI p)) 92 L (nI s)).1 73 21 = nI L by rw [ui_g (by omega), ui_g (by omega), ui_g (by omega), raw_get hr 73 21 rfl, v1], nI_add, ui_s]
          exact ⟨_, h', _, rfl, rfl, ⟨ρ', by rw [← hρ']; exact raw_set (raw_set (raw_set (raw_set hr rfl) rfl) rfl) rfl, g.1, g.2⟩, Or.inr (Or.inr ⟨L, by omega, rfl⟩)⟩
      · rw [below_n h3, mbelow_n (by omega) h3]
        exact ⟨_, hx, hm, rfl, rfl, ⟨ρ, hr, hv, hc⟩, Or.inl rfl⟩
    · rw [below_n h2, isEight_n h2]
      exact ⟨_, hx, hm, rfl, rfl, ⟨ρ, hr, hv, hc⟩, Or.inl rfl⟩
  · rw [below_n h, isForty_n h]
    exact ⟨_, hx, hm, rfl, rfl, ⟨ρ, hr, hv, hc⟩, Or.inl rfl⟩
theorem q_seen : pp_seen RR := by
  intro hx hm a b s hR
  obtain ⟨r, hx', hm', e1, e2, e3, -⟩ := seen_eq a b s hR
  exact ⟨r, hx', hm', e1, e2, e3⟩
