/-! ===== sheets ===== -/
theorem raw_same {m m' : fd_H} {x y : Nat} (h : sp_rc x y = true → m'.1 x y = m.1 x y) : (sp_raw m').1 x y = (sp_raw m).1 x y := by
  show (if sp_rc x y = true then m'.1 x y else 0) = if sp_rc x y = true then m.1 x y else 0
  by_cases c : sp_rc x y = true
  · rw [if_pos c, if_pos c, h c]
  · rw [if_neg c, if_neg c]
def sh (h m : fd_H) (s : Nat) : Prop := (m.1 93 s = 0 ∨ m.1 93 s = 1) ∧ (∃ f, f < 3 ∧ m.1 94 s = nI f) ∧ (∃ z, z ≤ 48 ∧ m.1 95 s = nI z) ∧ (h.1 (61 + 3 * s) 1 = 0 ↔ ¬ m.1 93 s = 0) ∧ h.1 (61 + 3 * s) 2 = m.1 94 s ∧ h.1 (61 + 3 * s) 3 = m.1 95 s ∧ ∀ i, i < 48 → h.1 (63 + 3 * s) i = m.1 96 (48 * s + i)
theorem sh_of {hx hm : fd_H} (hR : RR hx hm) : ∀ s, s < 4 → sh hx hm s := by
  obtain ⟨ρ, hr, hv, hc⟩ := hR
  intro s hs
  obtain ⟨a1, ⟨a2, a3⟩, a4, a5⟩ := hv.2.2.2 s hs
  obtain ⟨b1, b2, b3, b4⟩ := hc.H s hs
  refine ⟨?_, ⟨sp_fo ρ s, a3, ?_⟩, ⟨sp_sz ρ s, a5, ?_⟩, ?_, ?_, ?_, fun i hi => ?_⟩
  · rw [raw_get hr 93 s rfl]; exact a1
  · rw [raw_get hr 94 s rfl]; exact a2
  · rw [raw_get hr 95 s rfl]; exact a4
  · rw [raw_get hr 93 s rfl]; exact b1
  · rw [raw_get hr 94 s rfl]; exact b2
  · rw [raw_get hr 95 s rfl]; exact b3
  · rw [raw_get hr 96 (48 * s + i) rfl]; exact b4 i hi
theorem sh_same {h m h' m' : fd_H} {s : Nat} (q : sh h m s) (e1 : ∀ y, h'.1 (61 + 3 * s) y = h.1 (61 + 3 * s) y) (e2 : ∀ i, i < 48 → h'.1 (63 + 3 * s) i = h.1 (63 + 3 * s) i) (e3 : m'.1 93 s = m.1 93 s) (e4 : m'.1 94 s = m.1 94 s) (e5 : m'.1 95 s = m.1 95 s) (e6 : ∀ i, i < 48 → m'.1 96 (48 * s + i) = m.1 96 (48 * s + i)) : sh h' m' s := by
  obtain ⟨a1, a2, a3, a4, a5, a6, a7⟩ := q
  unfold sh
  rw [e1, e1, e1, e3, e4, e5]
  exact ⟨a1, a2, a3, a4, a5, a6, fun i hi => by rw [e2 i hi, e6 i hi]; exact a7 i hi⟩
theorem sheet_c {hx hm h' m' : fd_H} (hR : RR hx hm) (hm' : ∀ x y, ¬ (93 ≤ x ∧ x ≤ 96) → ¬ (x = 73 ∧ y = 30) → sp_rc x y = true → m'.1 x y = hm.1 x y) (hh : ∀ x y, x < 61 → x ≠ 0 → h'.1 x y = hx.1 x y) (h2 : h'.2 = hx.2) (hF : h'.1 0 7 = m'.1 73 30) (hS : ∀ s, s < 4 → sh h' m' s) : RR h' m' := by
  obtain ⟨ρ, hr, hv, hc⟩ := hR
  have kr : ∀ x y, ¬ (93 ≤ x ∧ x ≤ 96) → ¬ (x = 73 ∧ y = 30) → (sp_raw m').1 x y = ρ.1 x y := fun x y a b => by rw [← hr]; exact raw_same (fun c => hm' x y a b c)
  have kf : ∀ x, x ≠ 73 → ¬ (93 ≤ x ∧ x ≤ 96) → (sp_raw m').1 x = ρ.1 x := fun x a b => funext fun y => kr x y b (by omega)
  have g93 : ∀ s, (sp_raw m').1 93 s = m'.1 93 s := fun s => (raw_get rfl 93 s rfl).symm
  have g94 : ∀ s, (sp_raw m').1 94 s = m'.1 94 s := fun s => (raw_get rfl 94 s rfl).symm
  have g95 : ∀ s, (sp_raw m').1 95 s = m'.1 95 s := fun s => (raw_get rfl 95 s rfl).symm
  have g96 : ∀ s, (sp_raw m').1 96 s = m'.1 96 s := fun s => (raw_get rfl 96 s rfl).symm
  have g30 : (sp_raw m').1 73 30 = m'.1 73 30 := (raw_get rfl 73 30 rfl).symm
  have q := aside_c (h' := h') (ρ' := sp_raw m') hv hc (V3_e (kf 90 (by omega) (by omega)) (kf 91 (by omega) (by omega)) (kf 92 (by omega) (by omega)) (kr 73 21 (by omega) (by omega)) hv.2.2.1) (by
      intro s hs
      obtain ⟨a1, ⟨f, a2, a3⟩, ⟨z, a4, a5⟩, -⟩ := hS s hs
      have ef : sp_fo (sp_raw m') s = f := by unfold sp_fo; rw [g94, a3]; exact nI_clamp (by omega)
      have ez : sp_sz (sp_raw m') s = z := by unfold sp_sz; rw [g95, a5]; exact nI_clamp (by omega)
      rw [ef, ez, g93, g94, g95]
      exact ⟨a1, ⟨a3, a2⟩, a5, a4⟩) (fun x y a _ b => kr x y (by omega) b) (S_of (S_e (kf 90 (by omega) (by omega)) (kf 91 (by omega) (by omega)) (kf 92 (by omega) (by omega)) (kr 73 21 (by omega) (by omega)) hc.S) (fun x y _ => hh x y (by omega) (by omega))) (by
      intro s hs
      obtain ⟨-, -, -, a4, a5, a6, a7⟩ := hS s hs
      rw [g93, g94, g95]
      exact ⟨a4, a5, a6, fun i hi => by rw [g96]; exact a7 i hi⟩) (by rw [g30]; exact hF) (fun x y a b => hh x y (by omega) b) (fun x y _ => by rw [h2])
  exact ⟨_, rfl, q.1, q.2⟩
theorem fnd {hx hm : fd_H} (hR : RR hx hm) : hx.1 0 7 = hm.1 73 30 := by
  obtain ⟨ρ, hr, hv, hc⟩ := hR
  rw [raw_get hr 73 30 rfl]; exact hc.F
theorem find_c {hx hm : fd_H} (v : Int32) (hR : RR hx hm) : ∃ r hx' hm', fX8_find v hx = some (r, hx') ∧ fX9_meets v hm = some (r, hm') ∧ RR hx' hm' ∧ hx' = fd_ui hx 0 7 v ∧ hm' = fd_ui hm 73 30 v := by
  refine ⟨_, _, _, rfl, rfl, ?_, rfl, rfl⟩
  refine sheet_c hR (fun x y _ a _ => ui_g a) (fun x y a b => ui_g (by omega)) rfl (by rw [ui_s, ui_s]) (fun s hs => sh_same (sh_of hR s hs) (fun y => ui_g (by omega)) (fun i _ => ui_g (by omega)) (ui_g (by omega)) (ui_g (by omega)) (ui_g (by omega)) (fun i _ => ui_g (by omega)))
theorem renew_c {h : fd_H} {s : Nat} {f z : Int32} : ∃ h', fX4_renew (61 + 3 * s) f z h = some h' ∧ h'.2 = h.2 ∧ h'.1 (61 + 3 * s) 1 = 0 ∧ h'.1 (61 + 3 * s) 2 = f ∧ h'.1 (61 + 3 * s) 3 = z ∧ (∀ i, i < 48 → h'.1 (63 + 3 * s) i = 0) ∧ ∀ x y, x ≠ 61 + 3 * s → x ≠ 63 + 3 * s → h'.1 x y = h.1 x y := by
  unfold fX4_renew
  rw [fd_lt, fd_lt, fd_lt]
  generalize hh : fd_ui (fd_ui (fd_ui h (61 + 3 * s) 1 (fd_b false)) (61 + 3 * s) 2 f) (61 + 3 * s) 3 z = h3
  refine lpi0 (F := fun n h i => fX4_renew_L17 (61 + 3 * s) f z n i h) (fun i g => (∀ j, j < i → g.1 (63 + 3 * s) j = 0) ∧ (∀ x y, x ≠ 63 + 3 * s → g.1 x y = h3.1 x y) ∧ g.2 = h3.2) 48 (by omega) (post := fun o => ∃ h', o = some h' ∧ h'.2 = h.2 ∧ h'.1 (61 + 3 * s) 1 = 0 ∧ h'.1 (61 + 3 * s) 2 = f ∧ h'.1 (61 + 3 * s) 3 = z ∧ (∀ i, i < 48 → h'.1 (63 + 3 * s) i = 0) ∧ ∀ x y, x ≠ 61 + 3 * s → x ≠ 63 + 3 * s → h'.1 x y = h.1 x y) ⟨fun j hj => absurd hj (Nat.not_lt_zero j), fun x y _ => rfl, rfl⟩ ?_ ?_
  · intro n g ⟨g1, g2, g3⟩
    refine ⟨g, ?_, ?_, ?_, ?_, ?_, g1, ?_⟩
    · show fX4_renew_L17 (61 + 3 * s) f z (n + 1) (nI 48) g = _
      rw [fX4_renew_L17]; dsimp only
      rw [if_pos (by decide)]
    · rw [g3, ← hh]; rfl
    · rw [g2 _ _ (by omega), ← hh, ui_g (by omega), ui_g (by omega), ui_s]; rfl
    · rw [g2 _ _ (by omega), ← hh, ui_g (by omega), ui_s]
    · rw [g2 _ _ (by omega), ← hh, ui_s]
    · intro x y a b
      rw [g2 _ _ b, ← hh, ui_g (by omega), ui_g (by omega), ui_g (by omega)]
  · intro n i g hi ⟨g1, g2, g3⟩
    refine ⟨fd_ui g (63 + 3 * s) i 0, ⟨fun j hj => ?_, fun x y a => by rw [ui_g (by omega)]; exact g2 x y a, g3⟩, ?_⟩
    · by_cases q : j = i
      · rw [q, ui_s]
      · rw [ui_g (by omega)]; exact g1 j (by omega)
    · show fX4_renew_L17 (61 + 3 * s) f z (n + 1) (nI i) g = fX4_renew_L17 (61 + 3 * s) f z n (nI (i + 1)) _
      rw [fX4_renew_L17]; dsimp only
      rw [show (48 : Int32) = nI 48 from rfl, if_neg (nI_ge hi (by omega)), set_in hi (by omega), Option.bind_some, nI_1, show 61 + 3 * s + 1 + 1 = 63 + 3 * s by omega]
theorem renew_m {m : fd_H} {s : Nat} {f z : Int32} (hs : s < 4) : ∃ m', fX9_sheet_L59 (nI s) f z fd_fu 0 m = some (z, m') ∧ (∀ i, i < 48 → m'.1 96 (48 * s + i) = 0) ∧ ∀ x y, ¬ (x = 96 ∧ 48 * s ≤ y ∧ y < 48 * s + 48) → m'.1 x y = m.1 x y := by
  refine lpi0 (F := fun n h i => fX9_sheet_L59 (nI s) f z n i h) (fun i g => (∀ j, j < i → g.1 96 (48 * s + j) = 0) ∧ (∀ x y, ¬ (x = 96 ∧ 48 * s ≤ y ∧ y < 48 * s + 48) → g.1 x y = m.1 x y)) 48 (by omega) (post := fun o => ∃ m', o = some (z, m') ∧ (∀ i, i < 48 → m'.1 96 (48 * s + i) = 0) ∧ ∀ x y, ¬ (x = 96 ∧ 48 * s ≤ y ∧ y < 48 * s + 48) → m'.1 x y = m.1 x y) ⟨fun j hj => absurd hj (Nat.not_lt_zero j), fun x y _ => rfl⟩ ?_ ?_
  · intro n g ⟨g1, g2⟩
    refine ⟨g, ?_, g1, g2⟩
    show fX9_sheet_L59 (nI s) f z (n + 1) (nI 48) g = _
    rw [fX9_sheet_L59]; dsimp only
    rw [if_pos (by decide)]
  · intro n i g hi ⟨g1, g2⟩
    refine ⟨fd_ui g 96 (48 * s + i) 0, ⟨fun j hj => ?_, fun x y a => by rw [ui_g (by omega)]; exact g2 x y a⟩, ?_⟩
    · by_cases q : j = i
      · rw [q, ui_s]
      · rw [ui_g (by omega)]; exact g1 j (by omega)
    · show fX9_sheet_L59 (nI s) f z (n + 1) (nI i) g = fX9_sheet_L59 (nI s) f z n (nI (i + 1)) _
      rw [fX9_sheet_L59]; dsimp only
      rw [show (48 : Int32) = nI 48 from rfl, if_neg (nI_ge hi (by omega)), pk_mul, nI_add, in_nI (by omega) (by omega), fd_g, if_pos rfl, fd_lt, nI_clamp (by omega), nI_1]
theorem q_sheet : pp_sheet RR := by
  intro hx hm a b z hR
  unfold fX8_sheet fX9_sheet
  rw [show (4 : Int32) = nI 4 from rfl, show (3 : Int32) = nI 3 from rfl, show (2 : Int32) = nI 2 from rfl]
  rcases below_cases a (n := 4) (by omega) with ⟨s, hs, rfl⟩ | h
  · rw [below_y hs (by omega), isSheet_y hs, Option.bind_some, Option.bind_some, if_pos rfl, if_pos rfl]
    rcases below_cases b (n := 3) (by omega) with ⟨f, hf, rfl⟩ | h2
    · rw [below_y hf (by omega), mbelow_y (by omega) (by omega), Option.bind_some, Option.bind_some, if_pos rfl, if_pos rfl]
      by_cases c1 : z ≤ 48
      · rw [if_pos c1, if_pos c1]
        by_cases c2 : 0 ≤ z
        · rw [if_pos c2, if_pos c2, in_nI hs (by omega), fd_g, if_pos rfl, fd_g, if_pos rfl, fd_lt, fd_g, if_pos rfl, fd_lt, fd_g, if_pos rfl, fd_lt, nI_clamp (by omega)]
          obtain ⟨k, hk, rfl⟩ : ∃ k, k ≤ 48 ∧ z = nI k := by
            rcases below_cases z (n := 49) (by omega) with ⟨k, hk, e⟩ | q | q
            · exact ⟨k, by omega, e⟩
            · have a1 := Int32.lt_iff_toInt_lt.mp q
              have a2 := Int32.le_iff_toInt_le.mp c2
              omega
            · have a1 := Int32.le_iff_toInt_le.mp q
              have a2 := Int32.le_iff_toInt_le.mp c1
              have e1 : (nI 49).toInt = 49 := rfl
              have e2 : (48 : Int32).toInt = 48 := rfl
              omega
          obtain ⟨h', e1, e2, e3, e4, e5, e6, e7⟩ := renew_c (h := hx) (s := s) (f := nI f) (z := nI k)
          obtain ⟨m', f1, f2, f3⟩ := renew_m (m := fd_ui (fd_ui (fd_ui hm 93 s (fd_b true)) 94 s (nI f)) 95 s (nI k)) (f := nI f) (z := nI k) hs
          rw [e1, f1]
          refine ⟨_, h', m', rfl, rfl, sheet_c hR (fun x y a b _ => by rw [f3 x y (by omega), ui_g (by omega), ui_g (by omega), ui_g (by omega)]) (fun x y a b => e7 x y (by omega) (by omega)) e2 (by rw [e7 _ _ (by omega) (by omega), f3 _ _ (by omega), ui_g (by omega), ui_g (by omega), ui_g (by omega)]; exact fnd hR) (fun t ht => ?_)⟩
          by_cases q : t = s
          · subst q
            have g3 : m'.1 93 t = 1 := by rw [f3 _ _ (by omega), ui_g (by omega), ui_g (by omega), ui_s]; rfl
            have g4 : m'.1 94 t = nI f := by rw [f3 _ _ (by omega), ui_g (by omega), ui_s]
            have g5 : m'.1 95 t = nI k := by rw [f3 _ _ (by omega), ui_s]
            refine ⟨Or.inr g3, ⟨f, hf, g4⟩, ⟨k, hk, g5⟩, ?_, by rw [e4, g4], by rw [e5, g5], fun i hi => by rw [e6 i hi, f2 i hi]⟩
            rw [e3, g3]
            exact ⟨fun _ => by decide, fun _ => rfl⟩
          · exact sh_same (sh_of hR t ht) (fun y => e7 _ _ (by omega) (by omega)) (fun i _ => e7 _ _ (by omega) (by omega)) (by rw [f3 _ _ (by omega), ui_g (by omega), ui_g (by omega), ui_g (by omega)]) (by rw [f3 _ _ (by omega), ui_g (by omega), ui_g (by omega), ui_g (by omega)]) (by rw [f3 _ _ (by omega), ui_g (by omega), ui_g (by omega), ui_g (by omega)]) (fun i hi => by rw [f3 _ _ (by omega), ui_g (by omega), ui_g (by omega), ui_g (by omega)])
        · obtain ⟨r, hx', hm', e1, e2, e3, -⟩ := find_c 5 hR
          rw [if_neg c2, if_neg c2, e1, e2]
          exact ⟨_, hx', hm', rfl, rfl, e3⟩
      · rw [if_neg c1, if_neg c1]
        exact ⟨_, hx, hm, rfl, rfl, hR⟩
    · rw [below_n h2, mbelow_n (by omega) h2]
      exact ⟨_, hx, hm, rfl, rfl, hR⟩
  · rw [below_n h, isSheet_n h]
    exact ⟨_, hx, hm, rfl, rfl, hR⟩
theorem q_lose : pp_lose RR := by
  intro hx hm a hR
  unfold fX8_lose fX9_lose
  rw [show (4 : Int32) = nI 4 from rfl]
  rcases below_cases a (n := 4) (by omega) with ⟨s, hs, rfl⟩ | h
  · obtain ⟨a1, a2, a3, a4, a5, a6, a7⟩ := sh_of hR s hs
    rw [below_y hs (by omega), isSheet_y hs, Option.bind_some, Option.bind_some, if_pos rfl, if_pos rfl, in_nI hs (by omega), fd_g, if_pos rfl, fd_g, if_pos rfl, fd_lt, fd_g, if_pos rfl, fd_g, if_pos rfl, fd_g, if_pos rfl, fd_lt, fd_g, if_pos rfl, nI_clamp (by omega)]
    by_cases c : hm.1 93 s = 0
    · obtain ⟨r, hx', hm', e1, e2, e3, -⟩ := find_c 1 hR
      rw [if_neg (fun q => a4.mp q c), if_pos c, e1, e2]
      exact ⟨_, hx', hm', rfl, rfl, e3⟩
    · rw [if_pos (a4.mpr c), if_neg c, ui_g (by omega), ui_g (by omega), a6]
      refine ⟨_, _, _, rfl, rfl, sheet_c hR (fun x y a b _ => ui_g (by omega)) (fun x y a b => ui_g (by omega)) rfl (by rw [ui_g (by omega), ui_g (by omega)]; exact fnd hR) (fun t ht => ?_)⟩
      by_cases q : t = s
      · subst q
        refine ⟨Or.inl ui_s, ?_, ?_, ?_, ?_, ?_, fun i hi => ?_⟩
        · rw [ui_g (by omega)]; exact a2
        · rw [ui_g (by omega)]; exact a3
        · rw [ui_s, ui_s]; decide
        · rw [ui_g (by omega), ui_g (by omega)]; exact a5
        · rw [ui_g (by omega), ui_g (by omega)]; exact a6
        · rw [ui_g (by omega), ui_g (by omega)]; exact a7 i hi
      · exact sh_same (sh_of hR t ht) (fun y => ui_g (by omega)) (fun i _ => ui_g (by omega)) (ui_g (by omega)) (ui_g (by omega)) (ui_g (by omega)) (fun i _ => ui_g (by omega))
  · rw [below_n h, isSheet_n h]
    exact ⟨_, hx, hm, rfl, rfl, hR⟩
