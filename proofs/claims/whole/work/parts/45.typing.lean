/-! ===== typing, wiping, undoing ===== -/
theorem tn_eq {t : Nat} (ht : t < 3) : fd_tn (nI t) = sp_cp t := by
  rcases (show t = 0 ∨ t = 1 ∨ t = 2 by omega) with rfl | rfl | rfl <;> rfl
theorem fault_m1 {ρ : fd_H} {t : Nat} (hv : sp_V1 ρ) (ht : t < 3) : (sp_fault ρ t = -1) ↔ sp_well ρ t = true := by
  unfold sp_fault
  cases sp_well ρ t
  · have h1 := fs_le (fun i => !sp_fit ρ t i) (sp_tl ρ t)
    have h2 := Nat.le_trans (hv t ht).2.1 (cp_le t)
    rw [if_neg (by decide)]
    exact ⟨fun q => absurd q (m1_ne (by unfold sp_bad; omega)), fun q => Bool.noConfusion q⟩
  · rw [if_pos rfl]; exact ⟨fun _ => rfl, fun _ => rfl⟩
theorem parse_c {h ρ : fd_H} {t : Nat} (ht : t < 3) (hv1 : sp_V1 ρ) (hv : sp_V2 ρ) (cT : cx_T h ρ) (cP : t ≠ 0 → cx_P h ρ) (cN : t ≠ 1 → cx_N h ρ) (cD : t ≠ 2 → cx_D h ρ) (cM : cx_M h ρ) (cS : cx_S h ρ) (cH : cx_H h ρ) (cF : h.1 0 7 = ρ.1 73 30) : ∃ h', fX8_parse (nI t) h = some h' ∧ CX h' ρ := by
  have ea : (if sp_fault ρ t = -1 then nI (sp_tl ρ t) else 0) = if sp_well ρ t = true then nI (sp_tl ρ t) else 0 := by
    by_cases c : sp_well ρ t = true
    · rw [if_pos c, if_pos ((fault_m1 hv1 ht).mpr c)]
    · rw [if_neg c, if_neg (fun q => c ((fault_m1 hv1 ht).mp q))]
  have e1 : fX8_parse (nI t) h = fX8_parse_L33 (nI t) (2 + 3 * t) (sp_cp t) (if sp_well ρ t = true then nI (sp_tl ρ t) else 0) h := by
    unfold fX8_parse
    rw [show (3 : Int32) = nI 3 from rfl, below_y ht (by omega), Option.bind_some, if_pos rfl, in_nI ht (by omega), fd_g, if_pos rfl, nI_clamp (by omega), tn_eq ht, fault_c hv1 cT ht, Option.bind_some, (cT t ht).2.1, ← ea]
    by_cases c : sp_fault ρ t = -1
    · rw [if_pos c, if_pos c]
    · rw [if_neg c, if_neg c]
  rw [e1]
  rcases (show t = 0 ∨ t = 1 ∨ t = 2 by omega) with rfl | rfl | rfl
  · obtain ⟨h1, f1, -, f2, f3⟩ := parseP hv1 cT rfl
    have cz : CZ h1 ρ := ⟨T_of cT (fun x y _ _ => f2 x y (by omega) (by omega) (by omega) (by omega)), f3, N_of (cN (by decide)) (fun x y q => f2 x y (by omega) (by omega) (by omega) (by omega)), D_of (cD (by decide)) (fun x y q => f2 x y (by omega) (by omega) (by omega) (by omega)), M_of cM (fun x y q => f2 x y (by omega) (by omega) (by omega) (by omega)), S_of cS (fun x y q => f2 x y (by omega) (by omega) (by omega) (by omega)), H_of cH (fun x y _ _ => f2 x y (by omega) (by omega) (by omega) (by omega)), (f2 0 7 (by omega) (by omega) (by omega) (by omega)).trans cF⟩
    obtain ⟨h2, g1, -, g2⟩ := settle_c hv1 hv cz
    refine ⟨h2, ?_, g2⟩
    unfold fX8_parse_L33 fX8_parse_L76
    rw [if_pos (by decide)]
    show (fX2_parse 2 23 (if sp_well ρ 0 = true then nI (sp_tl ρ 0) else 0) h).bind _ = _
    rw [f1, Option.bind_some, g1]; rfl
  · obtain ⟨h1, f1, -, f2, f3⟩ := parseN hv1 cT rfl
    have cz : CZ h1 ρ := ⟨T_of cT (fun x y _ _ => f2 x y (by omega) (by omega)), P_of (cP (by decide)) (fun x y q => f2 x y (by omega) (by omega)), f3, D_of (cD (by decide)) (fun x y q => f2 x y (by omega) (by omega)), M_of cM (fun x y q => f2 x y (by omega) (by omega)), S_of cS (fun x y q => f2 x y (by omega) (by omega)), H_of cH (fun x y _ _ => f2 x y (by omega) (by omega)), (f2 0 7 (by omega) (by omega)).trans cF⟩
    obtain ⟨h2, g1, -, g2⟩ := settle_c hv1 hv cz
    refine ⟨h2, ?_, g2⟩
    unfold fX8_parse_L33 fX8_parse_L76
    rw [if_neg (show ¬ nI 1 = 0 by decide), if_pos (show nI 1 = 1 from rfl)]
    show (fX7_parse 5 40 (if sp_well ρ 1 = true then nI (sp_tl ρ 1) else 0) h).bind _ = _
    rw [f1, Option.bind_some, g1]; rfl
  · obtain ⟨h1, f1, -, f2, f3⟩ := parseD hv1 cT rfl
    have cz : CZ h1 ρ := ⟨T_of cT (fun x y _ _ => f2 x y (by omega) (by omega)), P_of (cP (by decide)) (fun x y q => f2 x y (by omega) (by omega)), N_of (cN (by decide)) (fun x y q => f2 x y (by omega) (by omega)), f3, M_of cM (fun x y q => f2 x y (by omega) (by omega)), S_of cS (fun x y q => f2 x y (by omega) (by omega)), H_of cH (fun x y _ _ => f2 x y (by omega) (by omega)), (f2 0 7 (by omega) (by omega)).trans cF⟩
    obtain ⟨h2, g1, -, g2⟩ := settle_c hv1 hv cz
    refine ⟨h2, ?_, g2⟩
    unfold fX8_parse_L33 fX8_parse_L76
    rw [if_neg (show ¬ nI 2 = 0 by decide), if_neg (show ¬ nI 2 = 1 by decide)]
    show (fX0_parse 8 71 (if sp_well ρ 2 = true then nI (sp_tl ρ 2) else 0) h).bind _ = _
    rw [f1, Option.bind_some, g1]; rfl
/-- a text's length changes, with or without a byte put at its end -/
theorem text_c {h h' ρ ρ' : fd_H} {t : Nat} (ht : t < 3) (hv : sp_V ρ) (c : CX h ρ) (hv1 : sp_V1 ρ') (hρ : ∀ x y, x ≠ 74 → x ≠ 75 → ρ'.1 x y = ρ.1 x y) (hag : ∀ s, s < 3 → s ≠ t → agT ρ ρ' s) (hT : cx_T h' ρ') (hh : ∀ x y, ¬ (2 ≤ x ∧ x ≤ 10) → h'.1 x y = h.1 x y) : ∃ h2, fX8_parse (nI t) h' = some h2 ∧ sp_V ρ' ∧ CX h2 ρ' := by
  have k : ∀ x, x ≠ 74 → x ≠ 75 → ρ'.1 x = ρ.1 x := fun x a b => funext fun y => hρ x y a b
  have v2 : sp_V2 ρ' := V2_e (k 84 (by omega) (by omega)) (k 85 (by omega) (by omega)) (k 86 (by omega) (by omega)) (hρ 73 13 (by omega) (by omega)) hv.2.1
  have v3 : sp_V3 ρ' := V3_e (k 90 (by omega) (by omega)) (k 91 (by omega) (by omega)) (k 92 (by omega) (by omega)) (hρ 73 21 (by omega) (by omega)) hv.2.2.1
  have v4 : sp_V4 ρ' := V4_e (k 93 (by omega) (by omega)) (k 94 (by omega) (by omega)) (k 95 (by omega) (by omega)) hv.2.2.2
  obtain ⟨h2, e, q⟩ := parse_c ht hv1 v2 hT
    (fun n => P_of (ag_P hv.1 (hag 0 (by omega) (by omega)) c.P) (fun x y _ => hh x y (by omega)))
    (fun n => N_of (ag_N hv.1 (hag 1 (by omega) (by omega)) c.N) (fun x y _ => hh x y (by omega)))
    (fun n => D_of (ag_D hv.1 (hag 2 (by omega) (by omega)) c.D) (fun x y _ => hh x y (by omega)))
    (M_of (M_e (k 84 (by omega) (by omega)) (k 85 (by omega) (by omega)) (k 86 (by omega) (by omega)) (hρ 73 13 (by omega) (by omega)) c.M) (fun x y _ => hh x y (by omega)))
    (S_of (S_e (k 90 (by omega) (by omega)) (k 91 (by omega) (by omega)) (k 92 (by omega) (by omega)) (hρ 73 21 (by omega) (by omega)) c.S) (fun x y _ => hh x y (by omega)))
    (H_of (H_e (k 93 (by omega) (by omega)) (k 94 (by omega) (by omega)) (k 95 (by omega) (by omega)) (k 96 (by omega) (by omega)) c.H) (fun x y _ _ => hh x y (by omega)))
    (by rw [hh 0 7 (by omega), hρ 73 30 (by omega) (by omega)]; exact c.F)
  exact ⟨h2, e, ⟨hv1, v2, v3, v4⟩, q⟩
theorem tl_of {ρ : fd_H} {t L : Nat} (h : ρ.1 74 t = nI L) (hL : L < 2147483648) : sp_tl ρ t = L := by unfold sp_tl; rw [h]; exact nI_clamp hL
theorem by_of {ρ : fd_H} {t i b : Nat} (h : ρ.1 75 (71 * t + i) = nI b) (hb : b < 2147483648) : sp_by ρ t i = b := by unfold sp_by; rw [h]; exact nI_clamp hb
/-- a text made shorter -/
theorem short_c {h ρ : fd_H} {t L : Nat} (ht : t < 3) (hv : sp_V ρ) (c : CX h ρ) (hL : L ≤ sp_tl ρ t) : ∃ h2, fX8_parse (nI t) (fd_ui h (2 + 3 * t) 2 (nI L)) = some h2 ∧ sp_V (fd_ui ρ 74 t (nI L)) ∧ CX h2 (fd_ui ρ 74 t (nI L)) ∧ h2.1 (2 + 3 * t) 2 = nI L := by
  have hcp : ∀ s, s < 3 → sp_tl ρ s ≤ 71 := fun s hs => Nat.le_trans (hv.1 s hs).2.1 (cp_le s)
  have e75 : (fd_ui ρ 74 t (nI L)).1 75 = ρ.1 75 := fd_ui_ne 75 (by omega)
  have eby : sp_by (fd_ui ρ 74 t (nI L)) = sp_by ρ := by_e e75
  have etl : ∀ s, s < 3 → sp_tl (fd_ui ρ 74 t (nI L)) s = if s = t then L else sp_tl ρ s := by
    intro s hs
    by_cases q : s = t
    · subst q; rw [if_pos rfl]; exact tl_of ui_s (by have := hcp s hs; omega)
    · rw [if_neg q]; unfold sp_tl; rw [ui_g (by omega)]
  have v1 : sp_V1 (fd_ui ρ 74 t (nI L)) := by
    intro s hs
    rw [etl s hs, eby, e75]
    by_cases q : s = t
    · subst q
      rw [if_pos rfl]
      exact ⟨ui_s, Nat.le_trans hL (hv.1 s hs).2.1, fun i hi => (hv.1 s hs).2.2 i (by omega)⟩
    · rw [if_neg q, ui_g (by omega)]
      exact hv.1 s hs
  obtain ⟨h2, a1, a2, a3⟩ := text_c (h' := fd_ui h (2 + 3 * t) 2 (nI L)) ht hv c v1 (fun x y a b => ui_g (by omega)) (fun s hs n => ⟨by rw [etl s hs, if_neg n], fun i _ => by rw [eby]⟩) (by
    intro s hs
    obtain ⟨b1, b2, b3⟩ := c.T s hs
    rw [etl s hs, eby]
    by_cases q : s = t
    · subst q
      rw [if_pos rfl, ui_s, ui_g (by omega)]
      exact ⟨b1, rfl, fun i hi => by rw [ui_g (by omega)]; exact b3 i (by omega)⟩
    · rw [if_neg q, ui_g (by omega), ui_g (by omega)]
      exact ⟨b1, b2, fun i hi => by rw [ui_g (by omega)]; exact b3 i hi⟩) (fun x y a => ui_g (by omega))
  refine ⟨h2, a1, a2, a3, ?_⟩
  rw [(a3.T t ht).2.1, etl t ht, if_pos rfl]
theorem q_wipe : pp_wipe RR := by
  intro hx hm a ⟨ρ, hr, hv, hc⟩
  unfold fX8_wipe fX9_wipe
  rw [show (3 : Int32) = nI 3 from rfl]
  rcases below_cases a (n := 3) (by omega) with ⟨t, ht, rfl⟩ | h
  · obtain ⟨h2, a1, a2, a3, -⟩ := short_c (L := 0) ht hv hc (Nat.zero_le _)
    rw [below_y ht (by omega), Option.bind_some, if_pos rfl, in_nI ht (by omega), fd_g, if_pos rfl, fd_lt, fd_g, if_pos rfl, fd_lt, nI_clamp (by omega), isText_y ht, Option.bind_some, if_pos rfl, fd_g, if_pos rfl, fd_lt, fd_g, if_pos rfl, fd_lt, (hc.T t ht).2.1, raw_get hr 74 t rfl, (hv.1 t ht).1, show (0 : Int32) = nI 0 from rfl, a1]
    exact ⟨_, h2, _, rfl, rfl, _, raw_set hr rfl, a2, a3⟩
  · rw [below_n h, isText_n h]
    exact ⟨_, hx, hm, rfl, rfl, ρ, hr, hv, hc⟩
theorem q_undo : pp_undo RR := by
  intro hx hm a ⟨ρ, hr, hv, hc⟩
  unfold fX8_undo fX9_undo
  rw [show (3 : Int32) = nI 3 from rfl]
  rcases below_cases a (n := 3) (by omega) with ⟨t, ht, rfl⟩ | h
  · have h71 := Nat.le_trans (hv.1 t ht).2.1 (cp_le t)
    rw [below_y ht (by omega), Option.bind_some, if_pos rfl, in_nI ht (by omega), fd_g, if_pos rfl, fd_g, if_pos rfl, fd_lt, nI_clamp (by omega), isText_y ht, Option.bind_some, if_pos rfl, fd_g, if_pos rfl, fd_g, if_pos rfl, fd_g, if_pos rfl, fd_lt, fd_g, if_pos rfl, (hc.T t ht).2.1, raw_get hr 74 t rfl, (hv.1 t ht).1]
    rcases Nat.eq_zero_or_pos (sp_tl ρ t) with q | q
    · rw [q, if_pos (by decide), if_pos (by decide)]
      exact ⟨_, hx, hm, rfl, rfl, ρ, hr, hv, hc⟩
    · obtain ⟨L, hL⟩ : ∃ L, sp_tl ρ t = L + 1 := ⟨sp_tl ρ t - 1, by omega⟩
      obtain ⟨h2, a1, a2, a3, a4⟩ := short_c (L := L) ht hv hc (by omega)
      have n0 : ¬ nI (L + 1) = 0 := nI_ne (b := 0) (by omega) (by omega) (by omega)
      rw [hL, if_neg n0, if_neg n0, m_one, a1, Option.bind_some, fd_g, if_pos rfl, a4, ui_s]
      exact ⟨_, h2, _, rfl, rfl, _, raw_set hr rfl, a2, a3⟩
  · rw [below_n h, isText_n h]
    exact ⟨_, hx, hm, rfl, rfl, ρ, hr, hv, hc⟩
/-- a byte put at a text's end -/
theorem long_c {h ρ : fd_H} {t b : Nat} (ht : t < 3) (hb : b < 256) (hv : sp_V ρ) (c : CX h ρ) (hL : sp_tl ρ t < sp_cp t) : ∃ h2, fX8_parse (nI t) (fd_ui (fd_ui h (4 + 3 * t) (sp_tl ρ t) (nI b)) (2 + 3 * t) 2 (nI (sp_tl ρ t + 1))) = some h2 ∧ sp_V (fd_ui (fd_ui ρ 75 (71 * t + sp_tl ρ t) (nI b)) 74 t (nI (sp_tl ρ t + 1))) ∧ CX h2 (fd_ui (fd_ui ρ 75 (71 * t + sp_tl ρ t) (nI b)) 74 t (nI (sp_tl ρ t + 1))) ∧ h2.1 (2 + 3 * t) 2 = nI (sp_tl ρ t + 1) := by
  have hcp : ∀ s, s < 3 → sp_tl ρ s ≤ 71 := fun s hs => Nat.le_trans (hv.1 s hs).2.1 (cp_le s)
  have hc1 := cp_le t
  generalize hL' : sp_tl ρ t = L at *
  generalize hρ' : fd_ui (fd_ui ρ 75 (71 * t + L) (nI b)) 74 t (nI (L + 1)) = ρ'
  have etl : ∀ s, s < 3 → sp_tl ρ' s = if s = t then L + 1 else sp_tl ρ s := by
    intro s hs
    by_cases q : s = t
    · subst q; rw [if_pos rfl, ← hρ']; exact tl_of ui_s (by omega)
    · rw [if_neg q, ← hρ']; unfold sp_tl; rw [ui_g (by omega), ui_g (by omega)]
  have e75 : ∀ s i, s < 3 → i < 71 → ρ'.1 75 (71 * s + i) = if s = t ∧ i = L then nI b else ρ.1 75 (71 * s + i) := by
    intro s i hs hi
    rw [← hρ', ui_g (by omega)]
    by_cases q : s = t ∧ i = L
    · rw [if_pos q, q.1, q.2, ui_s]
    · rw [if_neg q, ui_g (by omega)]
  have eby : ∀ s i, s < 3 → i < 71 → sp_by ρ' s i = if s = t ∧ i = L then b else sp_by ρ s i := by
    intro s i hs hi
    by_cases q : s = t ∧ i = L
    · rw [if_pos q]; exact by_of (by rw [e75 s i hs hi, if_pos q]) (by omega)
    · rw [if_neg q]; unfold sp_by; rw [e75 s i hs hi, if_neg q]
  have v1 : sp_V1 ρ' := by
    intro s hs
    obtain ⟨a1, a2, a3⟩ := hv.1 s hs
    have := hcp s hs
    rw [etl s hs]
    by_cases q : s = t
    · subst q
      rw [if_pos rfl]
      refine ⟨by rw [← hρ', ui_s], by omega, fun i hi => ?_⟩
      rw [e75 s i hs (by omega), eby s i hs (by omega)]
      by_cases qi : i = L
      · rw [if_pos ⟨rfl, qi⟩, if_pos ⟨rfl, qi⟩]; exact ⟨rfl, hb⟩
      · rw [if_neg (fun z => qi z.2), if_neg (fun z => qi z.2)]; exact a3 i (by omega)
    · rw [if_neg q]
      refine ⟨by rw [← hρ', ui_g (by omega), ui_g (by omega)]; exact a1, a2, fun i hi => ?_⟩
      rw [e75 s i hs (by omega), eby s i hs (by omega), if_neg (fun z => q z.1), if_neg (fun z => q z.1)]
      exact a3 i hi
  obtain ⟨h2, a1, a2, a3⟩ := text_c (h' := fd_ui (fd_ui h (4 + 3 * t) L (nI b)) (2 + 3 * t) 2 (nI (L + 1))) ht hv c v1 (fun x y a b => by rw [← hρ', ui_g (by omega), ui_g (by omega)]) (fun s hs n => ⟨by rw [etl s hs, if_neg n], fun i hi => by rw [eby s i hs hi, if_neg (fun z => n z.1)]⟩) (by
    intro s hs
    obtain ⟨b1, b2, b3⟩ := c.T s hs
    have := hcp s hs
    rw [etl s hs]
    by_cases q : s = t
    · subst q
      rw [if_pos rfl, ui_s, ui_g (by omega), ui_g (by omega)]
      refine ⟨b1, rfl, fun i hi => ?_⟩
      rw [eby s i hs (by omega), ui_g (by omega)]
      by_cases qi : i = L
      · rw [if_pos ⟨rfl, qi⟩, qi, ui_s]
      · rw [if_neg (fun z => qi z.2), ui_g (by omega)]; exact b3 i (by omega)
    · rw [if_neg q, ui_g (by omega), ui_g (by omega), ui_g (by omega), ui_g (by omega)]
      refine ⟨b1, b2, fun i hi => ?_⟩
      rw [ui_g (by omega), ui_g (by omega), eby s i hs (by omega), if_neg (fun z => q z.1)]; exact b3 i hi) (fun x y a => by rw [ui_g (by omega), ui_g (by omega)])
  refine ⟨h2, a1, a2, a3, ?_⟩
  rw [(a3.T t ht).2.1, etl t ht, if_pos rfl]
theorem q_type : pp_type RR := by
  intro hx hm a b ⟨ρ, hr, hv, hc⟩
  unfold fX8_type fX9_type
  rw [show (3 : Int32) = nI 3 from rfl, show (256 : Int32) = nI 256 from rfl, show (255 : Int32) = nI 255 from rfl]
  rcases below_cases a (n := 3) (by omega) with ⟨t, ht, rfl⟩ | h
  · have h71 := cp_le t
    have hle := (hv.1 t ht).2.1
    rw [below_y ht (by omega), Option.bind_some, if_pos rfl, isText_y ht, Option.bind_some, if_pos rfl]
    rcases below_cases b (n := 256) (by omega) with ⟨b, hb, rfl⟩ | h2
    · have em : (if nI t = 0 then fX9_type_L48 (nI t) (nI b) 23 (hm.1 74 t) hm else if nI t = 1 then fX9_type_L48 (nI t) (nI b) 40 (hm.1 74 t) hm else fX9_type_L48 (nI t) (nI b) 71 (hm.1 74 t) hm) = fX9_type_L48 (nI t) (nI b) (nI (sp_cp t)) (hm.1 74 t) hm := by
        rcases (show t = 0 ∨ t = 1 ∨ t = 2 by omega) with rfl | rfl | rfl <;> rfl
      obtain ⟨c1, c2, c3⟩ := hc.T t ht
      rw [below_y hb (by omega), Option.bind_some, if_pos rfl, mbelow_y (by omega) (by omega), Option.bind_some, if_pos rfl, in_nI ht (by omega), fd_g, if_pos rfl, fd_g, if_pos rfl, nI_clamp (by omega), tn_eq ht, em]
      unfold fX6_add fX9_type_L48
      rw [c1, c2, in_nI ht (by omega), nI_clamp (by omega), raw_get hr 74 t rfl, (hv.1 t ht).1]
      by_cases q : sp_tl ρ t < sp_cp t
      · obtain ⟨h2, a1, a2, a3, a4⟩ := long_c ht hb hv hc q
        have em2 : (71 : Int32) * nI t + nI (sp_tl ρ t) = nI (71 * t + sp_tl ρ t) := by rw [show (71 : Int32) = nI 71 from rfl, pk_mul, nI_add]
        have g2 : (fd_ui hx (4 + 3 * t) (sp_tl ρ t) (nI b)).1 (2 + 3 * t) 2 = nI (sp_tl ρ t) := by rw [ui_g (by omega), c2]
        have g3 : (fd_ui hm 75 (71 * t + sp_tl ρ t) (nI b)).1 74 t = nI (sp_tl ρ t) := by rw [ui_g (by omega), raw_get hr 74 t rfl, (hv.1 t ht).1]
        rw [if_pos (nI_lt q (by omega)), set_in q (by omega), Option.bind_some, fd_lt, show 2 + 3 * t + 1 + 1 = 4 + 3 * t by omega, g2, nI_1, Option.bind_some]; dsimp only
        rw [if_pos rfl, a1, Option.bind_some, fd_g, if_pos rfl, a4, if_neg (nI_ne (by omega) (by omega) (by omega)), fd_g, if_pos rfl, em2, in_nI (by omega) (by omega), fd_g, if_pos rfl, fd_lt, nI_clamp (by omega), fd_g, if_pos rfl, fd_g, if_pos rfl, fd_lt, fd_g, if_pos rfl, g3, nI_1, ui_s]
        exact ⟨_, h2, _, rfl, rfl, _, raw_set (raw_set hr rfl) rfl, a2, a3⟩
      · rw [if_neg (nI_nlt (by omega) (by omega)), Option.bind_some, if_pos (show nI (sp_tl ρ t) = nI (sp_cp t) by rw [show sp_tl ρ t = sp_cp t by omega])]
        exact ⟨_, hx, hm, rfl, rfl, ρ, hr, hv, hc⟩
    · rw [below_n h2, mbelow_n (by omega) h2]
      exact ⟨_, hx, hm, rfl, rfl, ρ, hr, hv, hc⟩
  · rw [below_n h, isText_n h]
    exact ⟨_, hx, hm, rfl, rfl, ρ, hr, hv, hc⟩
