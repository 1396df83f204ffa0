/-! ===== carried ===== -/
def sp_cd (ρ : fd_H) : Int32 := sp_or (fun w => sp_as ρ (sp_fi ρ (sp_wm ρ) (sp_cl ρ) w)) (sp_mc ρ 2)
theorem carried_in {ρ : fd_H} {w : Nat} (hv : sp_V ρ) (hw : w < 8) (K : Int32 → Int32 → fd_H → Option (Int32 × fd_H)) (v : Int32) : ∀ d p f h, p + d = sp_P ρ → d < f → CX h ρ → (∀ q, q < p → ∀ i, i < 64 → gb (h.2 59 q) i = (decide (i < sp_N ρ) && sp_fr ρ (sp_wm ρ) (sp_cl ρ) w i q)) → ∃ h', CX h' ρ ∧ fX8_carried_L20 K f v (nI w) (nI p) h = K (if sp_as ρ (sp_fi ρ (sp_wm ρ) (sp_cl ρ) w) = true then v ||| ((1 : Int32) <<< (nI w &&& 31)) else v) (nI (w + 1)) h' := by
  have hb := P_le hv.1
  intro d
  induction d with
  | zero =>
    intro p f h hd hf c ht
    obtain ⟨f, rfl⟩ : ∃ k, f = k + 1 := ⟨f - 1, by omega⟩
    refine ⟨h, c, ?_⟩
    rw [fX8_carried_L20]; dsimp only
    rw [c.P.1, if_pos (nI_le (by omega) (by omega)), asSeen_c hv c.P c.S (tr_by hv.1 (fun p hp => ht p (by omega))), Option.bind_some, fd_lt, nI_1]
    show (if sp_as ρ (sp_fi ρ (sp_wm ρ) (sp_cl ρ) w) = true then _ else _) = _
    cases sp_as ρ (sp_fi ρ (sp_wm ρ) (sp_cl ρ) w) <;> rfl
  | succ d ih =>
    intro p f h hd hf c ht
    obtain ⟨f, rfl⟩ : ∃ k, f = k + 1 := ⟨f - 1, by omega⟩
    obtain ⟨x, e1, e2⟩ := without_c hv c (by omega : p < sp_P ρ) hw
    obtain ⟨h', g1, g2⟩ := ih (p + 1) f (fd_ul h 59 p x) (by omega) (by omega) (c.trial rfl (fun x y a => ul_g (by omega))) (fun q hq i hi => by
      by_cases z : q = p
      · rw [z, ul_s]; exact e2 i hi
      · rw [ul_g (by omega)]; exact ht q (by omega) i hi)
    refine ⟨h', g1, ?_⟩
    rw [fX8_carried_L20]; dsimp only
    rw [c.P.1, if_neg (nI_ge (by omega) (by omega)), e1, Option.bind_some, sset_in (by omega), Option.bind_some, nI_1]
    exact g2
theorem carried_c {h ρ : fd_H} (hv : sp_V ρ) (c : CX h ρ) : ∃ h', fX8_carried h = some (sp_cd ρ, h') ∧ CX h' ρ := by
  have hb := P_le hv.1
  have h8 := (hv.2.1.2.2 2 (by omega)).2.1
  refine lpi0 (F := fun f (a : Int32 × fd_H) i => fX8_carried_L4 f a.1 i a.2) (fun i a => a.1 = sp_or (fun w => sp_as ρ (sp_fi ρ (sp_wm ρ) (sp_cl ρ) w)) i ∧ CX a.2 ρ) (sp_mc ρ 2) (by omega) (post := fun o => ∃ h', o = some (sp_cd ρ, h') ∧ CX h' ρ) (a := (0, h)) ⟨rfl, c⟩ ?_ ?_
  · intro f a ⟨a1, a2⟩
    refine ⟨a.2, ?_, a2⟩
    show fX8_carried_L4 (f + 1) a.1 (nI (sp_mc ρ 2)) a.2 = _
    have e : a.2.1 33 3 = nI (sp_mc ρ 2) := (a2.M.2 2 (by omega)).1
    rw [fX8_carried_L4]; dsimp only
    rw [e, if_pos (nI_le (Nat.le_refl _) (by omega)), a1]; rfl
  · intro f i a hi ⟨a1, a2⟩
    have e : a.2.1 33 3 = nI (sp_mc ρ 2) := (a2.M.2 2 (by omega)).1
    obtain ⟨h', g1, g2⟩ := carried_in hv (by omega : i < 8) (fX8_carried_L4 f) a.1 (sp_P ρ) 0 fd_fu a.2 (Nat.zero_add _) (by have := fu_ge; omega) a2 (fun q hq => absurd hq (Nat.not_lt_zero q))
    refine ⟨(if sp_as ρ (sp_fi ρ (sp_wm ρ) (sp_cl ρ) i) = true then a.1 ||| ((1 : Int32) <<< (nI i &&& 31)) else a.1, h'), ⟨?_, g1⟩, ?_⟩
    · show (if _ then _ else _) = sp_or (fun w => sp_as ρ (sp_fi ρ (sp_wm ρ) (sp_cl ρ) w)) (i + 1)
      rw [a1]; rfl
    · show fX8_carried_L4 (f + 1) a.1 (nI i) a.2 = fX8_carried_L4 f _ (nI (i + 1)) h'
      rw [fX8_carried_L4]; dsimp only
      rw [e, if_neg (nI_ge hi (by omega))]
      exact g2
theorem mt_w {m ρ : fd_H} {wf : Nat → Nat} {cf : Nat → Bool} {w u : Nat} (h : mt m ρ wf cf w) (hu : u < 8) : mt (fd_ui m 73 18 (nI u)) ρ wf cf u := by
  obtain ⟨h0, h1, h2, h3, h4, h5⟩ := h
  refine ⟨raw_ui2 h0 rfl, ⟨?_, fun p hp => ⟨?_, ?_⟩⟩, ⟨?_, fun k hk => ?_⟩, ⟨?_, fun d hd => ⟨?_, ?_, ?_, ?_, ?_⟩⟩, fun k hk => ?_, ?_⟩
  · rw [ui_g (by omega)]; exact h1.1
  · rw [ui_g (by omega)]; exact (h1.2 p hp).1
  · rw [ui_g (by omega)]; exact (h1.2 p hp).2
  · rw [ui_g (by omega)]; exact h2.1
  · rw [ui_g (by omega)]; exact h2.2 k hk
  · rw [ui_g (by omega)]; exact h3.1
  · rw [ui_g (by omega)]; exact (h3.2 d hd).1
  · rw [ui_g (by omega)]; exact (h3.2 d hd).2.1
  · rw [ui_g (by omega)]; exact (h3.2 d hd).2.2.1
  · rw [ui_g (by omega)]; exact (h3.2 d hd).2.2.2.1
  · rw [ui_g (by omega)]; exact (h3.2 d hd).2.2.2.2
  · rw [ui_g (by omega)]; exact h4 k hk
  · rw [ui_s]; exact (if_pos hu).symm
theorem carriedNow_eq {m ρ : fd_H} (hr : sp_raw m = ρ) (hv : sp_V ρ) : ∃ m', fX9_carriedNow m = some (sp_cd ρ, m') ∧ mp_R m' ρ := by
  obtain ⟨v1, v2, v3⟩ := hv.2.1.2.2 2 (by omega)
  obtain ⟨m2, e2, h2⟩ := asTold_eq hr hv.1 hv.2.1
  unfold fX9_carriedNow
  rw [e2, Option.bind_some]
  refine lpi0 (F := fun f (a : Int32 × fd_H) i => fX9_carriedNow_L8 f a.1 i a.2) (fun i a => a.1 = sp_or (fun w => sp_as ρ (sp_fi ρ (sp_wm ρ) (sp_cl ρ) w)) i ∧ ∃ u, mt a.2 ρ (sp_wm ρ) (sp_cl ρ) u) (sp_mc ρ 2) (by omega) (post := fun o => ∃ m', o = some (sp_cd ρ, m') ∧ mp_R m' ρ) (a := (0, m2)) ⟨rfl, 8, h2⟩ ?_ ?_
  · intro f a ⟨a1, u, a2⟩
    refine ⟨a.2, ?_, a2.1, a2.2.1, a2.2.2.1, a2.2.2.2.1⟩
    show fX9_carriedNow_L8 (f + 1) a.1 (nI (sp_mc ρ 2)) a.2 = _
    rw [fX9_carriedNow_L8]; dsimp only
    rw [show fd_in 2 3 = true from rfl, fd_g, if_pos rfl, show (2 : Int32).toNatClampNeg = 2 from rfl, raw_get a2.1 84 2 rfl, v1, if_pos (nI_le (Nat.le_refl _) (by omega)), a1]; rfl
  · intro f i a hi ⟨a1, u, a2⟩
    obtain ⟨m3, e3, g1, g2⟩ := isSeen_m hv (fun n hn => wm_le hn) (mt_w (u := i) a2 (by omega))
    refine ⟨(if sp_as ρ (sp_fi ρ (sp_wm ρ) (sp_cl ρ) i) = true then a.1 ||| ((1 : Int32) <<< (nI i &&& 31)) else a.1, m3), ⟨?_, i, g1⟩, ?_⟩
    · show (if _ then _ else _) = sp_or (fun w => sp_as ρ (sp_fi ρ (sp_wm ρ) (sp_cl ρ) w)) (i + 1)
      rw [a1]; rfl
    · show fX9_carriedNow_L8 (f + 1) a.1 (nI i) a.2 = fX9_carriedNow_L8 f _ (nI (i + 1)) m3
      rw [fX9_carriedNow_L8]; dsimp only
      unfold fX9_carriedNow_L38
      rw [show fd_in 2 3 = true from rfl, fd_g, if_pos rfl, show (2 : Int32).toNatClampNeg = 2 from rfl, raw_get a2.1 84 2 rfl, v1, if_neg (nI_ge hi (by omega)), fd_lt, e3, Option.bind_some]; dsimp only
      rw [fd_lt, fd_lt, nI_1, Int32.or_zero]
      cases sp_as ρ (sp_fi ρ (sp_wm ρ) (sp_cl ρ) i) <;> rfl
theorem q_carried : pp_carried RR := by
  intro hx hm ⟨ρ, hr, hv, hc⟩
  obtain ⟨h', e1, e2⟩ := carried_c hv hc
  obtain ⟨m2, g1, g2⟩ := carriedNow_eq hr hv
  unfold fX9_carried
  rw [e1, g1]
  exact ⟨_, h', m2, rfl, rfl, ρ, g2.1, hv, e2⟩
