/-! ===== was in the model; carried ===== -/
theorem mt_wf {m ρ : fd_H} {wf wg : Nat → Nat} {cf : Nat → Bool} {w : Nat} (h : mt m ρ wf cf w) (e : ∀ n, n < sp_N ρ → wf n = wg n) : mt m ρ wg cf w := by
  obtain ⟨h0, h1, h2, h3, h4, h5⟩ := h
  exact ⟨h0, h1, ⟨h2.1, fun n hn => by rw [← e n hn]; exact h2.2 n hn⟩, h3, h4, h5⟩
theorem mt_set {m ρ : fd_H} {wf : Nat → Nat} {cf : Nat → Bool} {w n u : Nat} (h : mt m ρ wf cf w) : mt (fd_ui m 78 n (nI u)) ρ (fun k => if k = n then u else wf k) cf w := by
  obtain ⟨h0, h1, h2, h3, h4, h5⟩ := h
  refine ⟨raw_ui2 h0 rfl, ⟨?_, fun p hp => ⟨?_, ?_⟩⟩, ⟨?_, fun k hk => ?_⟩, ⟨?_, fun d hd => ⟨?_, ?_, ?_, ?_, ?_⟩⟩, fun k hk => ?_, ?_⟩
  · rw [ui_g (by omega)]; exact h1.1
  · rw [ui_g (by omega)]; exact (h1.2 p hp).1
  · rw [ui_g (by omega)]; exact (h1.2 p hp).2
  · rw [ui_g (by omega)]; exact h2.1
  · show _ = nI (if k = n then u else wf k)
    by_cases q : k = n
    · rw [if_pos q, q, ui_s]
    · rw [if_neg q, ui_g (by omega)]; exact h2.2 k hk
  · rw [ui_g (by omega)]; exact h3.1
  · rw [ui_g (by omega)]; exact (h3.2 d hd).1
  · rw [ui_g (by omega)]; exact (h3.2 d hd).2.1
  · rw [ui_g (by omega)]; exact (h3.2 d hd).2.2.1
  · rw [ui_g (by omega)]; exact (h3.2 d hd).2.2.2.1
  · rw [ui_g (by omega)]; exact (h3.2 d hd).2.2.2.2
  · rw [ui_g (by omega)]; exact h4 k hk
  · rw [ui_g (by omega)]; exact h5
theorem ww_le {ρ : fd_H} {n w : Nat} (hw : w ≤ 25) : ∀ k, k < sp_N ρ → sp_ww ρ n w k ≤ 25 := fun k hk => by
  unfold sp_ww
  by_cases q : k = n
  · rw [if_pos q]; exact hw
  · rw [if_neg q]; exact wm_le hk
theorem ww_self {ρ : fd_H} {n k : Nat} : sp_wm ρ k = sp_ww ρ n (sp_wm ρ n) k := by
  unfold sp_ww
  by_cases q : k = n
  · rw [if_pos q, q]
  · rw [if_neg q]
theorem mt_ww {m ρ : fd_H} {cf : Nat → Bool} {w n u v : Nat} (h : mt m ρ (sp_ww ρ n v) cf w) : mt (fd_ui m 78 n (nI u)) ρ (sp_ww ρ n u) cf w := mt_wf (mt_set h) (fun k _ => by
  unfold sp_ww
  by_cases q : k = n
  · rw [if_pos q, if_pos q]
  · rw [if_neg q, if_neg q, if_neg q])
theorem wasOf_eq {m ρ : fd_H} {n : Nat} (hr : sp_raw m = ρ) (hv : sp_V ρ) (hn : n < sp_N ρ) : ∃ m', fX9_wasOf (nI n) m = some (sp_was ρ n, m') ∧ mt m' ρ (sp_wm ρ) (sp_cl ρ) 8 := by
  have hN := N_le hv.1
  obtain ⟨m2, e2, h2⟩ := asTold_eq hr hv.1 hv.2.1
  unfold fX9_wasOf
  rw [e2, Option.bind_some, in_nI (by omega) (by omega), fd_g, if_pos rfl, fd_lt, nI_clamp (by omega), h2.2.2.1.2 n hn]
  refine lpi0 (F := fun f (a : Int32 × fd_H) i => fX9_wasOf_L16 (nI n) f (nI (sp_wm ρ n)) a.1 i a.2) (fun i a => a.1 = sp_or (fun w => sp_as ρ (sp_fi ρ (sp_ww ρ n w) (sp_cl ρ) 8)) i ∧ ∃ u, mt a.2 ρ (sp_ww ρ n u) (sp_cl ρ) 8) 26 (by omega) (post := fun o => ∃ m', o = some (sp_was ρ n, m') ∧ mt m' ρ (sp_wm ρ) (sp_cl ρ) 8) (a := (0, m2)) ⟨rfl, sp_wm ρ n, mt_wf h2 (fun k _ => ww_self)⟩ ?_ ?_
  · intro f a ⟨a1, u, a2⟩
    refine ⟨fd_ui a.2 78 n (nI (sp_wm ρ n)), ?_, mt_wf (mt_ww a2) (fun k _ => ww_self.symm)⟩
    show fX9_wasOf_L16 (nI n) (f + 1) (nI (sp_wm ρ n)) a.1 (nI 26) a.2 = _
    rw [fX9_wasOf_L16]; dsimp only
    rw [if_pos (by decide), in_nI (by omega) (by omega), fd_g, if_pos rfl, fd_lt, nI_clamp (by omega), a1]; rfl
  · intro f i a hi ⟨a1, u, a2⟩
    obtain ⟨m3, e3, g1, g2⟩ := isSeen_m hv (ww_le (by omega : i ≤ 25)) (mt_ww (u := i) a2)
    refine ⟨(if sp_as ρ (sp_fi ρ (sp_ww ρ n i) (sp_cl ρ) 8) = true then a.1 ||| ((1 : Int32) <<< (nI i &&& 31)) else a.1, m3), ⟨?_, i, g1⟩, ?_⟩
    · show (if _ then _ else _) = sp_or (fun w => sp_as ρ (sp_fi ρ (sp_ww ρ n w) (sp_cl ρ) 8)) (i + 1)
      rw [a1]; rfl
    · show fX9_wasOf_L16 (nI n) (f + 1) (nI (sp_wm ρ n)) a.1 (nI i) a.2 = fX9_wasOf_L16 (nI n) f (nI (sp_wm ρ n)) _ (nI (i + 1)) m3
      rw [fX9_wasOf_L16]; dsimp only
      unfold fX9_wasOf_L47
      rw [show (26 : Int32) = nI 26 from rfl, if_neg (nI_ge hi (by omega)), in_nI (by omega) (by omega), fd_g, if_pos rfl, fd_lt, nI_clamp (by omega), e3, Option.bind_some]; dsimp only
      rw [fd_lt, fd_lt, nI_1, Int32.or_zero]
      cases sp_as ρ (sp_fi ρ (sp_ww ρ n i) (sp_cl ρ) 8) <;> rfl
theorem q_was : pp_was RR := by
  intro hx hm a ⟨ρ, hr, hv, hc⟩
  have hN := N_le hv.1
  rcases below_cases a (n := sp_N ρ) (by omega) with ⟨n, hn, rfl⟩ | h
  · obtain ⟨h', e1, e2⟩ := was_c hv hc hn
    obtain ⟨m1, f1, f2⟩ := isNight_y hr hv.1 hn
    obtain ⟨m2, g1, g2⟩ := wasOf_eq f2.1 hv hn
    unfold fX9_was
    rw [e1, f1, Option.bind_some]; dsimp only
    rw [if_pos rfl, g1]
    exact ⟨_, h', m2, rfl, rfl, ρ, g2.1, hv, e2⟩
  · obtain ⟨m1, f1, f2⟩ := isNight_n hr hv.1 h
    unfold fX8_was fX9_was
    rw [hc.N.1, below_n h, f1]
    exact ⟨_, hx, m1, rfl, rfl, ρ, f2.1, hv, hc⟩
theorem without_c {h ρ : fd_H} {p w : Nat} (hv : sp_V ρ) (c : CX h ρ) (hp : p < sp_P ρ) (hw : w < 8) : ∃ x, fX7_frostsWithout (nI w) (nI p) h = some x ∧ ∀ i, i < 64 → gb x i = (decide (i < sp_N ρ) && sp_fr ρ (sp_wm ρ) (sp_cl ρ) w i p) := by
  have hb := P_le hv.1
  have hN := N_le hv.1
  obtain ⟨x, e1, e2⟩ := nightsAt_eq (k := 2) (w := w) hv.2.1 c.M (by omega) (by omega : p < 8)
  have ew : sp_wI w = nI w := if_pos hw
  rw [ew] at e1
  obtain ⟨y, f1, f2⟩ := frost_eq (cy := h.2 11 7) (iy := x &&& (fd_lshl 1 (nI (sp_N ρ)) - 1)) hv.1 hv.2.1 c.M c.P c.N hp (fun i hi => (c.W.2 p hp i hi).1)
  refine ⟨y, ?_, fun i hi => ?_⟩
  · unfold fX7_frostsWithout fX8_bitsBelow
    have e1 : fX1_nightsAt 33 (nI p) (nI w) h = some x := e1
    rw [e1, Option.bind_some, Option.bind_some, c.N.1, f1]; rfl
  · rw [f2 i hi, gb_and, e2 i hi, bitsBelow_gb hN hi, c.W.1 i hi]
    unfold sp_fr sp_ic
    generalize sp_any (fun j => decide (sp_mn ρ 2 j = i) && decide (sp_mp ρ 2 j = p) && !decide (j = w)) (sp_mc ρ 2) = A
    cases decide (i < sp_N ρ) <;> cases A <;> cases sp_cl ρ i <;> cases sp_cold ρ i p (sp_wm ρ i) <;> cases sp_sm ρ i p <;> rfl
