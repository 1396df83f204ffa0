/-! ===== askings again, over one raw heap ===== -/
def RF (ρ hx hm : fd_H) : Prop := sp_raw hm = ρ ∧ sp_V ρ ∧ CX hx ρ
theorem r_warmth (ρ : fd_H) : pp_warmth (RF ρ) := by
  intro hx hm a b ⟨hr, hv, hc⟩
  have hb := P_le hv.1
  have hN := N_le hv.1
  unfold fX8_warmth fX9_warmth
  rw [hc.N.1]
  rcases below_cases a (n := sp_N ρ) (by omega) with ⟨n, hn, rfl⟩ | h
  · obtain ⟨m1, e1, h1⟩ := isNight_y hr hv.1 hn
    rw [e1, Option.bind_some, below_y hn (by omega), Option.bind_some, if_pos rfl]; dsimp only
    rw [if_pos rfl]
    rcases below_cases b (n := sp_P ρ) (by omega) with ⟨p, hp, rfl⟩ | h2
    · obtain ⟨m2, e2, h2⟩ := isPlace_y h1.1 hv.1 hp
      obtain ⟨m3, e3, h3⟩ := reads_eq h2.1 hv.1
      rw [e2, Option.bind_some, has_y hc.P.1 hp (by omega), Option.bind_some, if_pos rfl, at_in (by omega) (by omega), at_in (by omega) (by omega), hc.N.2 n hn, (hc.P.2 p hp).2.2]; dsimp only
      unfold fX9_warmthOf
      rw [if_pos rfl, e3]
      simp only [Option.bind_some]
      rw [h3.warmth hv.1 hn hp]
      exact ⟨_, m3, rfl, rfl, h3.1, hv, hc⟩
    · obtain ⟨m2, e2, h3⟩ := isPlace_n h1.1 hv.1 h2
      rw [e2, Option.bind_some, has_n hc.P.1 h2]
      exact ⟨_, m2, rfl, rfl, h3.1, hv, hc⟩
  · obtain ⟨m', e, h3⟩ := isNight_n hr hv.1 h
    rw [e, Option.bind_some, below_n h]
    exact ⟨_, m', rfl, rfl, h3.1, hv, hc⟩
theorem r_freezes (ρ : fd_H) : pp_freezes (RF ρ) := by
  intro hx hm a b ⟨hr, hv, hc⟩
  have hb := P_le hv.1
  have hN := N_le hv.1
  unfold fX8_freezes fX9_freezes
  rw [hc.N.1]
  rcases below_cases a (n := sp_N ρ) (by omega) with ⟨n, hn, rfl⟩ | h
  · obtain ⟨m1, e1, h1⟩ := isNight_y hr hv.1 hn
    rw [e1, Option.bind_some, below_y hn (by omega), Option.bind_some, if_pos rfl]; dsimp only
    rw [if_pos rfl]
    rcases below_cases b (n := sp_P ρ) (by omega) with ⟨p, hp, rfl⟩ | h2
    · obtain ⟨m2, e2, h2⟩ := isPlace_y h1.1 hv.1 hp
      obtain ⟨m3, e3, h3, -⟩ := freezesOf_eq h2.1 hv hn hp
      have w := hc.W.2 p hp n (by omega)
      rw [e2, Option.bind_some, has_y hc.P.1 hp (by omega), Option.bind_some, if_pos rfl, sat_in (by omega), Option.bind_some, hasBit_eq (by omega), Option.bind_some, sat_in (by omega), Option.bind_some, hasBit_eq (by omega), Option.bind_some, w.2.1, w.2.2, decide_eq_true hn, Bool.true_and, Bool.true_and]; dsimp only
      rw [if_pos rfl, e3]
      refine ⟨_, m3, ?_, rfl, h3, hv, hc⟩
      cases sp_ic ρ 8 n p <;> cases sp_fr ρ (sp_wm ρ) (sp_cl ρ) 8 n p <;> rfl
    · obtain ⟨m2, e2, h3⟩ := isPlace_n h1.1 hv.1 h2
      rw [e2, Option.bind_some, has_n hc.P.1 h2]
      exact ⟨_, m2, rfl, rfl, h3.1, hv, hc⟩
  · obtain ⟨m', e, h3⟩ := isNight_n hr hv.1 h
    rw [e, Option.bind_some, below_n h]
    exact ⟨_, m', rfl, rfl, h3.1, hv, hc⟩
theorem r_was (ρ : fd_H) : pp_was (RF ρ) := by
  intro hx hm a ⟨hr, hv, hc⟩
  have hN := N_le hv.1
  rcases below_cases a (n := sp_N ρ) (by omega) with ⟨n, hn, rfl⟩ | h
  · obtain ⟨h', e1, e2⟩ := was_c hv hc hn
    obtain ⟨m1, f1, f2⟩ := isNight_y hr hv.1 hn
    obtain ⟨m2, g1, g2⟩ := wasOf_eq f2.1 hv hn
    unfold fX9_was
    rw [e1, f1, Option.bind_some]; dsimp only
    rw [if_pos rfl, g1]
    exact ⟨_, h', m2, rfl, rfl, g2.1, hv, e2⟩
  · obtain ⟨m1, f1, f2⟩ := isNight_n hr hv.1 h
    unfold fX8_was fX9_was
    rw [hc.N.1, below_n h, f1]
    exact ⟨_, hx, m1, rfl, rfl, f2.1, hv, hc⟩
theorem r_ask (ρ : fd_H) : pp_ask (RF ρ) := by
  intro hx hm a ⟨hr, hv, hc⟩
  have hN := N_le hv.1
  rcases below_cases a (n := sp_N ρ) (by omega) with ⟨n, hn, rfl⟩ | h
  · obtain ⟨h', e1, e2⟩ := ask_c hv hc hn
    obtain ⟨m1, f1, f2⟩ := isNight_y hr hv.1 hn
    obtain ⟨m2, g1, g2⟩ := askOf_eq f2.1 hv hn
    unfold fX9_ask
    rw [e1, f1, Option.bind_some]; dsimp only
    rw [if_pos rfl, g1]
    exact ⟨_, h', m2, rfl, rfl, g2.1, hv, e2⟩
  · obtain ⟨m1, f1, f2⟩ := isNight_n hr hv.1 h
    unfold fX8_ask fX9_ask
    rw [hc.N.1, below_n h, f1]
    exact ⟨_, hx, m1, rfl, rfl, f2.1, hv, hc⟩
theorem r_count (ρ : fd_H) : pp_count (RF ρ) := by
  intro hx hm a ⟨hr, hv, hc⟩
  obtain ⟨m', e, h⟩ := reads_eq hr hv.1
  have hT := fun t ht => (hc.T t ht).2.1
  have hM := fun k hk => (hc.M.2 k hk).1
  unfold fX8_count fX9_count fX9_partsMany
  by_cases c0 : a = 0
  · subst c0
    rw [if_pos rfl, if_pos rfl, e, hc.P.1]
    refine ⟨_, m', rfl, ?_, h.1, hv, hc⟩
    rw [← h.2.1.1]; rfl
  rw [if_neg c0, if_neg c0]
  by_cases c1 : a = 1
  · subst c1
    rw [if_pos rfl, if_pos rfl, e, hc.N.1]
    refine ⟨_, m', rfl, ?_, h.1, hv, hc⟩
    rw [← h.2.2.1.1]; rfl
  rw [if_neg c1, if_neg c1]
  by_cases c2 : a = 2
  · subst c2
    rw [if_pos rfl, if_pos rfl, e, hc.D.1]
    refine ⟨_, m', rfl, ?_, h.1, hv, hc⟩
    rw [← h.2.2.2.1]; rfl
  rw [if_neg c2, if_neg c2]
  by_cases c3 : a = 3
  · subst c3
    refine ⟨nI (sp_tl ρ 0), hm, ?_, ?_, hr, hv, hc⟩
    · rw [if_pos rfl, ← hT 0 (by omega)]; rfl
    · rw [if_pos rfl, ← (hv.1 0 (by omega)).1, ← raw_get hr 74 0 rfl]; rfl
  rw [if_neg c3, if_neg c3]
  by_cases c4 : a = 4
  · subst c4
    refine ⟨nI (sp_tl ρ 1), hm, ?_, ?_, hr, hv, hc⟩
    · rw [if_pos rfl, ← hT 1 (by omega)]; rfl
    · rw [if_pos rfl, ← (hv.1 1 (by omega)).1, ← raw_get hr 74 1 rfl]; rfl
  rw [if_neg c4, if_neg c4]
  by_cases c5 : a = 5
  · subst c5
    refine ⟨nI (sp_tl ρ 2), hm, ?_, ?_, hr, hv, hc⟩
    · rw [if_pos rfl, ← hT 2 (by omega)]; rfl
    · rw [if_pos rfl, ← (hv.1 2 (by omega)).1, ← raw_get hr 74 2 rfl]; rfl
  rw [if_neg c5, if_neg c5]
  by_cases c6 : a = 6
  · subst c6
    refine ⟨nI (sp_mc ρ 0) + nI (sp_mc ρ 1) + nI (sp_mc ρ 2), hm, ?_, ?_, hr, hv, hc⟩
    · rw [if_pos rfl, ← hM 0 (by omega), ← hM 1 (by omega), ← hM 2 (by omega)]
    · rw [if_pos rfl, ← (hv.2.1.2.2 0 (by omega)).1, ← (hv.2.1.2.2 1 (by omega)).1, ← (hv.2.1.2.2 2 (by omega)).1, ← raw_get hr 84 0 rfl, ← raw_get hr 84 1 rfl, ← raw_get hr 84 2 rfl]; rfl
  rw [if_neg c6, if_neg c6]
  by_cases c7 : a = 7
  · subst c7
    refine ⟨nI (sp_sc ρ), hm, ?_, ?_, hr, hv, hc⟩
    · rw [if_pos rfl, ← hc.S.1]
    · rw [if_pos rfl, ← hv.2.2.1.1, ← raw_get hr 73 21 rfl]
  rw [if_neg c7, if_neg c7]
  by_cases c8 : a = 8
  · subst c8
    refine ⟨ρ.1 73 30, hm, ?_, ?_, hr, hv, hc⟩
    · rw [if_pos rfl, hc.F]
    · rw [if_pos rfl, ← raw_get hr 73 30 rfl]
  rw [if_neg c8, if_neg c8]
  exact ⟨_, hm, rfl, rfl, hr, hv, hc⟩
