/-! ===== what depends on what ===== -/
theorem V2_e {ρ ρ' : fd_H} (e1 : ρ'.1 84 = ρ.1 84) (e2 : ρ'.1 85 = ρ.1 85) (e3 : ρ'.1 86 = ρ.1 86) (e4 : ρ'.1 73 13 = ρ.1 73 13) (h : sp_V2 ρ) : sp_V2 ρ' := by
  unfold sp_V2 sp_zr sp_mc sp_mn sp_mp at h ⊢
  rw [e1, e2, e3, e4]; exact h
theorem M_e {h ρ ρ' : fd_H} (e1 : ρ'.1 84 = ρ.1 84) (e2 : ρ'.1 85 = ρ.1 85) (e3 : ρ'.1 86 = ρ.1 86) (e4 : ρ'.1 73 13 = ρ.1 73 13) (c : cx_M h ρ) : cx_M h ρ' := by
  unfold cx_M sp_zr sp_mc sp_mn sp_mp at c ⊢
  rw [e1, e2, e3, e4]; exact c
theorem V3_e {ρ ρ' : fd_H} (e1 : ρ'.1 90 = ρ.1 90) (e2 : ρ'.1 91 = ρ.1 91) (e3 : ρ'.1 92 = ρ.1 92) (e4 : ρ'.1 73 21 = ρ.1 73 21) (h : sp_V3 ρ) : sp_V3 ρ' := by
  unfold sp_V3 sp_sc sp_sn sp_sp sp_si at h ⊢
  rw [e1, e2, e3, e4]; exact h
theorem S_e {h ρ ρ' : fd_H} (e1 : ρ'.1 90 = ρ.1 90) (e2 : ρ'.1 91 = ρ.1 91) (e3 : ρ'.1 92 = ρ.1 92) (e4 : ρ'.1 73 21 = ρ.1 73 21) (c : cx_S h ρ) : cx_S h ρ' := by
  unfold cx_S sp_sc sp_sn sp_sp sp_si at c ⊢
  rw [e1, e2, e3, e4]; exact c
theorem V4_e {ρ ρ' : fd_H} (e1 : ρ'.1 93 = ρ.1 93) (e2 : ρ'.1 94 = ρ.1 94) (e3 : ρ'.1 95 = ρ.1 95) (h : sp_V4 ρ) : sp_V4 ρ' := by
  unfold sp_V4 sp_fo sp_sz at h ⊢
  rw [e1, e2, e3]; exact h
theorem H_e {h ρ ρ' : fd_H} (e1 : ρ'.1 93 = ρ.1 93) (e2 : ρ'.1 94 = ρ.1 94) (e3 : ρ'.1 95 = ρ.1 95) (e4 : ρ'.1 96 = ρ.1 96) (c : cx_H h ρ) : cx_H h ρ' := by
  unfold cx_H at c ⊢
  rw [e1, e2, e3, e4]; exact c
theorem tl_e {ρ ρ' : fd_H} (e1 : ρ'.1 74 = ρ.1 74) : sp_tl ρ' = sp_tl ρ := by funext t; unfold sp_tl; rw [e1]
theorem by_e {ρ ρ' : fd_H} (e2 : ρ'.1 75 = ρ.1 75) : sp_by ρ' = sp_by ρ := by funext t i; unfold sp_by; rw [e2]
theorem fit_e {ρ ρ' : fd_H} (e2 : ρ'.1 75 = ρ.1 75) : sp_fit ρ' = sp_fit ρ := by funext t i; unfold sp_fit; rw [by_e e2]
theorem well_e {ρ ρ' : fd_H} (e1 : ρ'.1 74 = ρ.1 74) (e2 : ρ'.1 75 = ρ.1 75) : sp_well ρ' = sp_well ρ := by funext t; unfold sp_well sp_bad; rw [fit_e e2, tl_e e1]
theorem P_e {ρ ρ' : fd_H} (e1 : ρ'.1 74 = ρ.1 74) (e2 : ρ'.1 75 = ρ.1 75) : sp_P ρ' = sp_P ρ := by unfold sp_P; rw [well_e e1 e2, tl_e e1]
theorem N_e {ρ ρ' : fd_H} (e1 : ρ'.1 74 = ρ.1 74) (e2 : ρ'.1 75 = ρ.1 75) : sp_N ρ' = sp_N ρ := by unfold sp_N; rw [well_e e1 e2, tl_e e1]
theorem D_e {ρ ρ' : fd_H} (e1 : ρ'.1 74 = ρ.1 74) (e2 : ρ'.1 75 = ρ.1 75) : sp_D ρ' = sp_D ρ := by unfold sp_D; rw [well_e e1 e2, tl_e e1]
theorem ht_e {ρ ρ' : fd_H} (e2 : ρ'.1 75 = ρ.1 75) : sp_ht ρ' = sp_ht ρ := by funext p; unfold sp_ht; rw [by_e e2]
theorem kd_e {ρ ρ' : fd_H} (e2 : ρ'.1 75 = ρ.1 75) : sp_kd ρ' = sp_kd ρ := by funext p; unfold sp_kd; rw [by_e e2]
theorem wm_e {ρ ρ' : fd_H} (e2 : ρ'.1 75 = ρ.1 75) : sp_wm ρ' = sp_wm ρ := by funext p; unfold sp_wm; rw [by_e e2]
theorem f_e {ρ ρ' : fd_H} (e2 : ρ'.1 75 = ρ.1 75) : sp_f ρ' = sp_f ρ := by funext d j; unfold sp_f sp_two; rw [by_e e2]
theorem V1_e {ρ ρ' : fd_H} (e1 : ρ'.1 74 = ρ.1 74) (e2 : ρ'.1 75 = ρ.1 75) (h : sp_V1 ρ) : sp_V1 ρ' := by
  unfold sp_V1 at h ⊢
  rw [tl_e e1, by_e e2, e1, e2]; exact h
theorem T_e {h ρ ρ' : fd_H} (e1 : ρ'.1 74 = ρ.1 74) (e2 : ρ'.1 75 = ρ.1 75) (c : cx_T h ρ) : cx_T h ρ' := by
  unfold cx_T at c ⊢
  rw [tl_e e1, by_e e2]; exact c
theorem cP_e {h ρ ρ' : fd_H} (e1 : ρ'.1 74 = ρ.1 74) (e2 : ρ'.1 75 = ρ.1 75) (c : cx_P h ρ) : cx_P h ρ' := by
  unfold cx_P at c ⊢
  rw [P_e e1 e2, ht_e e2, kd_e e2]; exact c
theorem cN_e {h ρ ρ' : fd_H} (e1 : ρ'.1 74 = ρ.1 74) (e2 : ρ'.1 75 = ρ.1 75) (c : cx_N h ρ) : cx_N h ρ' := by
  unfold cx_N at c ⊢
  rw [N_e e1 e2, wm_e e2]; exact c
theorem cD_e {h ρ ρ' : fd_H} (e1 : ρ'.1 74 = ρ.1 74) (e2 : ρ'.1 75 = ρ.1 75) (c : cx_D h ρ) : cx_D h ρ' := by
  unfold cx_D at c ⊢
  rw [D_e e1 e2, f_e e2]; exact c
theorem W_e {h ρ ρ' : fd_H} (e1 : ρ'.1 74 = ρ.1 74) (e2 : ρ'.1 75 = ρ.1 75) (e3 : ρ'.1 84 = ρ.1 84) (e4 : ρ'.1 85 = ρ.1 85) (e5 : ρ'.1 86 = ρ.1 86) (e6 : ρ'.1 73 13 = ρ.1 73 13) (c : cx_W h ρ) : cx_W h ρ' := by
  have ecl : sp_cl ρ' = sp_cl ρ := by funext n; unfold sp_cl sp_mn sp_mc; rw [e3, e4]
  have esm : sp_sm ρ' = sp_sm ρ := by funext n p; unfold sp_sm sp_mn sp_mc sp_mp; rw [e3, e4, e5]
  have eic : sp_ic ρ' = sp_ic ρ := by funext w n p; unfold sp_ic sp_mn sp_mc sp_mp; rw [e3, e4, e5]
  have eco : sp_cold ρ' = sp_cold ρ := by funext n p w; unfold sp_cold sp_wt sp_zr; rw [ht_e e2, kd_e e2, e6]
  have efr : sp_fr ρ' = sp_fr ρ := by funext wf cf w n p; unfold sp_fr; rw [esm, eic, eco]
  unfold cx_W at c ⊢
  rw [ecl, esm, eic, efr, P_e e1 e2, N_e e1 e2, wm_e e2]; exact c
/-! one text changes, the others stay -/
def agT (ρ ρ' : fd_H) (t : Nat) : Prop := sp_tl ρ' t = sp_tl ρ t ∧ ∀ i, i < 71 → sp_by ρ' t i = sp_by ρ t i
theorem ag_fit {ρ ρ' : fd_H} {t i : Nat} (ht : t < 3) (h : agT ρ ρ' t) (hi : i < 71) : sp_fit ρ' t i = sp_fit ρ t i := by
  unfold sp_fit
  rcases (show t = 0 ∨ t = 1 ∨ t = 2 by omega) with rfl | rfl | rfl
  · rw [if_pos rfl, if_pos rfl, h.2 i hi]
  · rw [if_neg (by decide), if_pos rfl, if_neg (by decide), if_pos rfl, h.2 i hi]
  · show sp_fitD (i % 8) (sp_by ρ' 2 i) (if i = 0 then 0 else sp_by ρ' 2 (i - 1)) = sp_fitD (i % 8) (sp_by ρ 2 i) (if i = 0 then 0 else sp_by ρ 2 (i - 1))
    rw [h.2 i hi, h.2 (i - 1) (by omega)]
theorem ag_well {ρ ρ' : fd_H} {t : Nat} (ht : t < 3) (hl : sp_tl ρ t ≤ 71) (h : agT ρ ρ' t) : sp_well ρ' t = sp_well ρ t := by
  unfold sp_well sp_bad
  rw [h.1, fs_cong (r := fun i => !sp_fit ρ t i) (fun j hj => by rw [ag_fit ht h (by omega)])]
theorem ag_P {h ρ ρ' : fd_H} (hv : sp_V1 ρ) (g : agT ρ ρ' 0) (c : cx_P h ρ) : cx_P h ρ' := by
  have hl : sp_tl ρ 0 ≤ 71 := Nat.le_trans (hv 0 (by omega)).2.1 (cp_le 0)
  have hb := P_le hv
  have eP : sp_P ρ' = sp_P ρ := by unfold sp_P; rw [ag_well (by omega) hl g, g.1]
  unfold cx_P at c ⊢
  rw [eP]
  refine ⟨c.1, fun p hp => ?_⟩
  have := c.2 p hp
  unfold sp_ht sp_kd at this ⊢
  rw [g.2 (3 * p) (by omega), g.2 (3 * p + 1) (by omega)]
  exact this
theorem ag_N {h ρ ρ' : fd_H} (hv : sp_V1 ρ) (g : agT ρ ρ' 1) (c : cx_N h ρ) : cx_N h ρ' := by
  have hl : sp_tl ρ 1 ≤ 71 := Nat.le_trans (hv 1 (by omega)).2.1 (cp_le 1)
  have hb := N_le hv
  have eP : sp_N ρ' = sp_N ρ := by unfold sp_N; rw [ag_well (by omega) hl g, g.1]
  unfold cx_N at c ⊢
  rw [eP]
  refine ⟨c.1, fun p hp => ?_⟩
  have := c.2 p hp
  unfold sp_wm at this ⊢
  rw [g.2 p (by omega)]
  exact this
theorem ag_D {h ρ ρ' : fd_H} (hv : sp_V1 ρ) (g : agT ρ ρ' 2) (c : cx_D h ρ) : cx_D h ρ' := by
  have hl : sp_tl ρ 2 ≤ 71 := Nat.le_trans (hv 2 (by omega)).2.1 (cp_le 2)
  have hb := D_le hv
  have eP : sp_D ρ' = sp_D ρ := by unfold sp_D; rw [ag_well (by omega) hl g, g.1]
  unfold cx_D at c ⊢
  rw [eP]
  refine ⟨c.1, fun p hp j hj => ?_⟩
  have := c.2 p hp j hj
  unfold sp_f sp_two at this ⊢
  rw [g.2 (8 * p) (by omega), g.2 (8 * p + 1) (by omega), g.2 (8 * p + 2) (by omega), g.2 (8 * p + 2 + 1) (by omega), g.2 (8 * p + 4) (by omega), g.2 (8 * p + 5) (by omega), g.2 (8 * p + 5 + 1) (by omega)]
  exact this
/-- cells of the class that a relation looks at -/
theorem T_of {h h' ρ : fd_H} (c : cx_T h ρ) (hf : ∀ x y, 2 ≤ x → x ≤ 10 → h'.1 x y = h.1 x y) : cx_T h' ρ := fun t ht => by
  obtain ⟨a, b, d⟩ := c t ht
  refine ⟨?_, ?_, fun i hi => ?_⟩
  · rw [hf _ _ (by omega) (by omega)]; exact a
  · rw [hf _ _ (by omega) (by omega)]; exact b
  · rw [hf _ _ (by omega) (by omega)]; exact d i hi
theorem P_of {h h' ρ : fd_H} (c : cx_P h ρ) (hf : ∀ x y, (x = 12 ∧ y = 3) ∨ x = 14 ∨ x = 16 ∨ x = 18 → h'.1 x y = h.1 x y) : cx_P h' ρ := by
  refine ⟨?_, fun p hp => ⟨?_, ?_, ?_⟩⟩
  · rw [hf _ _ (by omega)]; exact c.1
  · rw [hf _ _ (by omega)]; exact (c.2 p hp).1
  · rw [hf _ _ (by omega)]; exact (c.2 p hp).2.1
  · rw [hf _ _ (by omega)]; exact (c.2 p hp).2.2
theorem N_of {h h' ρ : fd_H} (c : cx_N h ρ) (hf : ∀ x y, (x = 11 ∧ y = 5) ∨ x = 41 → h'.1 x y = h.1 x y) : cx_N h' ρ := by
  refine ⟨?_, fun p hp => ?_⟩
  · rw [hf _ _ (by omega)]; exact c.1
  · rw [hf _ _ (by omega)]; exact c.2 p hp
theorem D_of {h h' ρ : fd_H} (c : cx_D h ρ) (hf : ∀ x y, (x = 48 ∧ y = 1) ∨ x = 50 → h'.1 x y = h.1 x y) : cx_D h' ρ := by
  refine ⟨?_, fun p hp j hj => ?_⟩
  · rw [hf _ _ (by omega)]; exact c.1
  · rw [hf _ _ (by omega)]; exact c.2 p hp j hj
theorem M_of {h h' ρ : fd_H} (c : cx_M h ρ) (hf : ∀ x y, (x = 11 ∧ y = 6) ∨ (19 ≤ x ∧ x ≤ 39) → h'.1 x y = h.1 x y) : cx_M h' ρ := by
  refine ⟨?_, fun k hk => ⟨?_, fun i hi => ⟨?_, ?_⟩⟩⟩
  · rw [hf _ _ (by omega)]; exact c.1
  · rw [hf _ _ (by omega)]; exact (c.2 k hk).1
  · rw [hf _ _ (by omega)]; exact ((c.2 k hk).2 i hi).1
  · rw [hf _ _ (by omega)]; exact ((c.2 k hk).2 i hi).2
theorem S_of {h h' ρ : fd_H} (c : cx_S h ρ) (hf : ∀ x y, (x = 51 ∧ y = 3) ∨ x = 53 ∨ x = 55 ∨ x = 57 → h'.1 x y = h.1 x y) : cx_S h' ρ := by
  refine ⟨?_, fun i hi => ⟨?_, ?_, ?_⟩⟩
  · rw [hf _ _ (by omega)]; exact c.1
  · rw [hf _ _ (by omega)]; exact (c.2 i hi).1
  · rw [hf _ _ (by omega)]; exact (c.2 i hi).2.1
  · rw [hf _ _ (by omega)]; exact (c.2 i hi).2.2
theorem H_of {h h' ρ : fd_H} (c : cx_H h ρ) (hf : ∀ x y, 61 ≤ x → x ≤ 72 → h'.1 x y = h.1 x y) : cx_H h' ρ := fun s hs => by
  obtain ⟨a, b, d, e⟩ := c s hs
  refine ⟨?_, ?_, ?_, fun i hi => ?_⟩
  · rw [hf _ _ (by omega) (by omega)]; exact a
  · rw [hf _ _ (by omega) (by omega)]; exact b
  · rw [hf _ _ (by omega) (by omega)]; exact d
  · rw [hf _ _ (by omega) (by omega)]; exact e i hi
theorem W_of {h h' ρ : fd_H} (c : cx_W h ρ) (hf : ∀ x y, (x = 11 ∧ y = 7) ∨ x = 43 ∨ x = 45 ∨ x = 47 → h'.2 x y = h.2 x y) : cx_W h' ρ := by
  refine ⟨fun i hi => ?_, fun p hp i hi => ⟨?_, ?_, ?_⟩⟩
  · rw [hf _ _ (by omega)]; exact c.1 i hi
  · rw [hf _ _ (by omega)]; exact (c.2 p hp i hi).1
  · rw [hf _ _ (by omega)]; exact (c.2 p hp i hi).2.1
  · rw [hf _ _ (by omega)]; exact (c.2 p hp i hi).2.2
/-- all but the weather, which settle makes -/
def CZ (h ρ : fd_H) : Prop := cx_T h ρ ∧ cx_P h ρ ∧ cx_N h ρ ∧ cx_D h ρ ∧ cx_M h ρ ∧ cx_S h ρ ∧ cx_H h ρ ∧ h.1 0 7 = ρ.1 73 30
theorem settle_c {h ρ : fd_H} (hv1 : sp_V1 ρ) (hv : sp_V2 ρ) (c : CZ h ρ) : ∃ h', fX7_settle h = some h' ∧ h'.1 = h.1 ∧ CX h' ρ := by
  obtain ⟨c1, c2, c3, c4, c5, c6, c7, c8⟩ := c
  obtain ⟨h', e, e1, -, w⟩ := settle_eq hv1 hv c5 c2 c3
  have g : ∀ x y, h'.1 x y = h.1 x y := fun x y => by rw [e1]
  exact ⟨h', e, e1, T_of c1 (fun x y _ _ => g x y), P_of c2 (fun x y _ => g x y), N_of c3 (fun x y _ => g x y), D_of c4 (fun x y _ => g x y), M_of c5 (fun x y _ => g x y), w, S_of c6 (fun x y _ => g x y), H_of c7 (fun x y _ _ => g x y), (g 0 7).trans c8⟩
