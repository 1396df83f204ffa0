/-! ===== put get read count ===== -/
theorem lack_eq {hx hm : fd_H} {s f : Nat} (i : Int32) (hR : RR hx hm) (hs : s < 4) (hf : f < 3) : ∃ v, fX4_findingAt (61 + 3 * s) (nI f) i hx = some v ∧ fX9_lacks (nI s) (nI f) i hm = some v ∧ ((v = 0 ∧ ∃ j, j < 48 ∧ i = nI j) ∨ v = 1 ∨ v = 2 ∨ v = 3) := by
  obtain ⟨a1, ⟨g, a2, a2'⟩, ⟨z, a3, a3'⟩, a4, a5, a6, a7⟩ := sh_of hR s hs
  unfold fX4_findingAt fX9_lacks
  rw [in_nI hs (by omega), fd_g, if_pos rfl, fd_g, if_pos rfl, fd_g, if_pos rfl, nI_clamp (by omega), a5, a6, a2', a3']
  by_cases c : hm.1 93 s = 0
  · rw [if_neg (fun q => a4.mp q c), if_pos c]
    exact ⟨_, rfl, rfl, Or.inr (Or.inl rfl)⟩
  · rw [if_pos (a4.mpr c), if_neg c]
    by_cases c2 : g = f
    · have cg : nI g = nI f := by rw [c2]
      rw [if_pos cg, if_pos cg]
      rcases below_cases i (n := z) (by omega) with ⟨j, hj, rfl⟩ | h
      · rw [if_neg (nI_pos (by omega)), if_neg (nI_ge hj (by omega)), in_sub_y hj (by omega)]
        exact ⟨_, rfl, rfl, Or.inl ⟨rfl, j, by omega, rfl⟩⟩
      · rw [in_sub_n (by omega) h]
        refine ⟨2, ?_, rfl, Or.inr (Or.inr (Or.inl rfl))⟩
        rcases h with h | h
        · rw [if_pos h]
        · by_cases q : i < 0
          · rw [if_pos q]
          · rw [if_neg q, if_pos h]
    · rw [if_neg (nI_ne c2 (by omega) (by omega)), if_neg (nI_ne c2 (by omega) (by omega))]
      exact ⟨_, rfl, rfl, Or.inr (Or.inr (Or.inr rfl))⟩
theorem store_eq {hx hm : fd_H} {s j : Nat} (a : Int32) (hR : RR hx hm) (hs : s < 4) (hj : j < 48) : ∃ v, fX4_store (61 + 3 * s) (nI j) a hx = some (fd_ui hx (63 + 3 * s) j v) ∧ fX9_keepsItem (nI s) (nI j) a hm = some (fd_ui hm 96 (48 * s + j) v) := by
  obtain ⟨a1, ⟨g, a2, a2'⟩, ⟨z, a3, a3'⟩, a4, a5, a6, a7⟩ := sh_of hR s hs
  have l1 : ∀ v, fX4_store_L31 (61 + 3 * s) (nI j) a v hx = some (fd_ui hx (63 + 3 * s) j v) := by
    intro v
    unfold fX4_store_L31
    rw [set_in hj (by omega), Option.bind_some, show 61 + 3 * s + 1 + 1 = 63 + 3 * s by omega]
  have l2 : ∀ v, fX9_keepsItem_L40 (nI s) (nI j) a v hm = some (fd_ui hm 96 (48 * s + j) v) := by
    intro v
    unfold fX9_keepsItem_L40
    rw [show (48 : Int32) = nI 48 from rfl, pk_mul, nI_add, in_nI (by omega) (by omega), fd_g, if_pos rfl, fd_lt, nI_clamp (by omega)]
  unfold fX4_store fX9_keepsItem
  rw [in_nI hs (by omega), fd_g, if_pos rfl, fd_g, if_pos rfl, nI_clamp (by omega), a5, l1, l1, l1, l2, l2, l2]
  by_cases c : hm.1 94 s = 0
  · rw [if_pos c, if_pos c]; exact ⟨_, rfl, rfl⟩
  · rw [if_neg c, if_neg c]
    by_cases c2 : hm.1 94 s = 1
    · rw [if_pos c2, if_pos c2]; exact ⟨_, rfl, rfl⟩
    · rw [if_neg c2, if_neg c2]; exact ⟨_, rfl, rfl⟩
theorem put_RR {hx hm : fd_H} {s j : Nat} {v : Int32} (hR : RR hx hm) (hs : s < 4) (hj : j < 48) : RR (fd_ui hx (63 + 3 * s) j v) (fd_ui hm 96 (48 * s + j) v) := by
  refine sheet_c hR (fun x y a b _ => ui_g (by omega)) (fun x y a b => ui_g (by omega)) rfl (by rw [ui_g (by omega), ui_g (by omega)]; exact fnd hR) (fun t ht => ?_)
  by_cases q : t = s
  · subst q
    obtain ⟨a1, a2, a3, a4, a5, a6, a7⟩ := sh_of hR t ht
    refine ⟨?_, ?_, ?_, ?_, ?_, ?_, fun i hi => ?_⟩
    · rw [ui_g (by omega)]; exact a1
    · rw [ui_g (by omega)]; exact a2
    · rw [ui_g (by omega)]; exact a3
    · rw [ui_g (by omega), ui_g (by omega)]; exact a4
    · rw [ui_g (by omega), ui_g (by omega)]; exact a5
    · rw [ui_g (by omega), ui_g (by omega)]; exact a6
    · by_cases qi : i = j
      · rw [qi, ui_s, ui_s]
      · rw [ui_g (by omega), ui_g (by omega)]; exact a7 i hi
  · exact sh_same (sh_of hR t ht) (fun y => ui_g (by omega)) (fun i _ => ui_g (by omega)) (ui_g (by omega)) (ui_g (by omega)) (ui_g (by omega)) (fun i _ => ui_g (by omega))
theorem q_put : pp_put RR := by
  intro hx hm a b i v hR
  unfold fX8_put fX9_put
  rw [show (4 : Int32) = nI 4 from rfl, show (3 : Int32) = nI 3 from rfl, show (2 : Int32) = nI 2 from rfl]
  rcases below_cases a (n := 4) (by omega) with ⟨s, hs, rfl⟩ | h
  · rw [below_y hs (by omega), isSheet_y hs, Option.bind_some, Option.bind_some, if_pos rfl, if_pos rfl]
    rcases below_cases b (n := 3) (by omega) with ⟨f, hf, rfl⟩ | h2
    · obtain ⟨w, e1, e2, e3⟩ := lack_eq i hR hs hf
      rw [below_y hf (by omega), mbelow_y (by omega) (by omega), Option.bind_some, Option.bind_some, if_pos rfl, if_pos rfl, in_nI hs (by omega), fd_g, if_pos rfl, fd_g, if_pos rfl, nI_clamp (by omega), e1, e2, Option.bind_some, Option.bind_some]
      rcases e3 with ⟨rfl, j, hj, rfl⟩ | e3
      · obtain ⟨u, f1, f2⟩ := store_eq v hR hs hj
        rw [if_pos rfl, if_pos (by decide), f1, f2]
        exact ⟨_, _, _, rfl, rfl, put_RR hR hs hj⟩
      · obtain ⟨r, hx', hm', g1, g2, g3, -⟩ := find_c w hR
        rw [g1, g2]
        rcases e3 with rfl | rfl | rfl <;> exact ⟨_, hx', hm', rfl, rfl, g3⟩
    · rw [below_n h2, mbelow_n (by omega) h2]
      exact ⟨_, hx, hm, rfl, rfl, hR⟩
  · rw [below_n h, isSheet_n h]
    exact ⟨_, hx, hm, rfl, rfl, hR⟩
theorem q_get : pp_get RR := by
  intro hx hm a b i hR
  unfold fX8_get fX9_get fX8_get_L16 fX9_get_L16
  rw [show (4 : Int32) = nI 4 from rfl, show (3 : Int32) = nI 3 from rfl, show (2 : Int32) = nI 2 from rfl]
  rcases below_cases a (n := 4) (by omega) with ⟨s, hs, rfl⟩ | h
  · rw [below_y hs (by omega), isSheet_y hs, Option.bind_some, Option.bind_some, if_pos rfl, if_pos rfl]
    rcases below_cases b (n := 3) (by omega) with ⟨f, hf, rfl⟩ | h2
    · obtain ⟨w, e1, e2, e3⟩ := lack_eq i hR hs hf
      rw [below_y hf (by omega), mbelow_y (by omega) (by omega), Option.bind_some, Option.bind_some, if_pos rfl, if_pos rfl, in_nI hs (by omega), fd_g, if_pos rfl, fd_g, if_pos rfl, nI_clamp (by omega), e1, e2, Option.bind_some, Option.bind_some]
      rcases e3 with ⟨rfl, j, hj, rfl⟩ | e3
      · rw [if_pos rfl, if_pos (by decide), at_in hj (by omega), show (48 : Int32) = nI 48 from rfl, pk_mul, nI_add, in_nI (by omega) (by omega), fd_g, if_pos rfl, nI_clamp (by omega), show 61 + 3 * s + 1 + 1 = 63 + 3 * s by omega, (sh_of hR s hs).2.2.2.2.2.2 j hj]
        exact ⟨_, hx, hm, rfl, rfl, hR⟩
      · obtain ⟨r, hx', hm', g1, g2, g3, g4, g5⟩ := find_c w hR
        rw [g1, fd_lt, ← g5]
        rcases e3 with rfl | rfl | rfl <;> exact ⟨_, hx', hm', rfl, rfl, g3⟩
    · rw [below_n h2, mbelow_n (by omega) h2]
      exact ⟨_, hx, hm, rfl, rfl, hR⟩
  · rw [below_n h, isSheet_n h]
    exact ⟨_, hx, hm, rfl, rfl, hR⟩
theorem read_loop {s : Nat} (hs : s < 4) : ∀ d i f hx hm, i + d = 17 → d < f → RR hx hm → ∃ r hx' hm', fX8_read_L36 (nI s) f (61 + 3 * s) (nI i) (nI (3 * i)) hx = some (r, hx') ∧ fX9_read_L27 (nI s) f (nI i) hm = some (r, hm') ∧ RR hx' hm' := by
  intro d
  induction d with
  | zero =>
    intro i f hx hm hi hf hR
    obtain ⟨f, rfl⟩ : ∃ k, f = k + 1 := ⟨f - 1, by omega⟩
    obtain ⟨a1, a2, ⟨z, a3, a3'⟩, a4, a5, a6, a7⟩ := sh_of hR s hs
    refine ⟨nI i, hx, hm, ?_, ?_, hR⟩
    · rw [fX8_read_L36]; dsimp only
      rw [a6, a3', show (2 : Int32) = nI 2 from rfl, nI_add, if_pos (nI_le (by omega) (by omega))]
    · rw [fX9_read_L27]; dsimp only
      rw [in_nI hs (by omega), fd_g, if_pos rfl, nI_clamp (by omega), a3', show (2 : Int32) = nI 2 from rfl, show (3 : Int32) = nI 3 from rfl, pk_mul, nI_add, if_pos (nI_le (by omega) (by omega))]
  | succ d ih =>
    intro i f hx hm hi hf hR
    obtain ⟨f, rfl⟩ : ∃ k, f = k + 1 := ⟨f - 1, by omega⟩
    obtain ⟨a1, a2, ⟨z, a3, a3'⟩, a4, a5, a6, a7⟩ := sh_of hR s hs
    rw [fX8_read_L36, fX9_read_L27]; dsimp only
    rw [a6, in_nI hs (by omega), fd_g, if_pos rfl, nI_clamp (by omega), a3', show (2 : Int32) = nI 2 from rfl, show (3 : Int32) = nI 3 from rfl, show (48 : Int32) = nI 48 from rfl, pk_mul, pk_mul, nI_add, nI_add, nI_1, nI_1, nI_add, nI_add]
    by_cases c : z ≤ 3 * i + 2
    · rw [if_pos (nI_le c (by omega)), if_pos (nI_le c (by omega))]
      exact ⟨_, hx, hm, rfl, rfl, hR⟩
    · rw [if_neg (nI_ge (by omega) (by omega)), if_neg (nI_ge (by omega) (by omega)), at_in (by omega) (by omega), at_in (by omega) (by omega), at_in (by omega) (by omega), Option.bind_some, Option.bind_some, Option.bind_some, nI_1, in_nI (by omega) (by omega), in_nI (by omega) (by omega), in_nI (by omega) (by omega), fd_g, if_pos rfl, fd_g, if_pos rfl, fd_g, if_pos rfl, nI_clamp (by omega), nI_clamp (by omega), nI_clamp (by omega), show 61 + 3 * s + 1 + 1 = 63 + 3 * s by omega, a7 _ (by omega), a7 _ (by omega), a7 _ (by omega), show 48 * s + (3 * i + 1) = 48 * s + 3 * i + 1 by omega, show 48 * s + (3 * i + 2) = 48 * s + 3 * i + 2 by omega]
      obtain ⟨r, hx', hm', e1, e2, e3, e4⟩ := seen_eq (hm.1 96 (48 * s + 3 * i)) (hm.1 96 (48 * s + 3 * i + 1)) (hm.1 96 (48 * s + 3 * i + 2)) hR
      rw [e1, e2, Option.bind_some, Option.bind_some]; dsimp only
      rcases e4 with rfl | rfl | ⟨k, hk, rfl⟩
      · exact ⟨_, hx', hm', rfl, rfl, e3⟩
      · exact ⟨_, hx', hm', rfl, rfl, e3⟩
      · rw [if_pos (show (0 : Int32) ≤ nI (k + 1) from nI_le (a := 0) (by omega) (by omega)), if_neg (show ¬ nI (k + 1) ≤ (0 : Int32) from nI_ge (a := 0) (by omega) (by omega))]
        exact ih (i + 1) f hx' hm' (by omega) (by omega) e3
theorem q_read : pp_read RR := by
  intro hx hm a hR
  unfold fX8_read fX9_read
  rw [show (4 : Int32) = nI 4 from rfl]
  rcases below_cases a (n := 4) (by omega) with ⟨s, hs, rfl⟩ | h
  · obtain ⟨a1, a2, a3, a4, a5, a6, a7⟩ := sh_of hR s hs
    rw [below_y hs (by omega), isSheet_y hs, Option.bind_some, Option.bind_some, if_pos rfl, if_pos rfl, in_nI hs (by omega), fd_g, if_pos rfl, fd_g, if_pos rfl, nI_clamp (by omega)]
    by_cases c : hm.1 93 s = 0
    · obtain ⟨r, hx', hm', e1, e2, e3, -⟩ := find_c 1 hR
      rw [if_neg (fun q => a4.mp q c), if_pos c, e1, e2]
      exact ⟨_, hx', hm', rfl, rfl, e3⟩
    · rw [if_pos (a4.mpr c), if_neg c]
      exact read_loop hs 17 0 fd_fu hx hm rfl (by have := fu_ge; omega) hR
  · rw [below_n h, isSheet_n h]
    exact ⟨_, hx, hm, rfl, rfl, hR⟩
