/-! ===== the digest ===== -/
def mx (h v : Int64) : Int64 := 31 * h + v
theorem mt_R {m ρ : fd_H} {cf : Nat → Bool} {w : Nat} (h : mt m ρ (sp_wm ρ) cf w) : mp_R m ρ := ⟨h.1, h.2.1, h.2.2.1, h.2.2.2.1⟩
theorem firstOf_m {m ρ : fd_H} {p : Nat} (hr : sp_raw m = ρ) (hv : sp_V ρ) (hp : p < sp_P ρ) : ∃ m', fX9_firstOf (nI p) m = some (sp_fI (sp_f0 ρ p), m') ∧ mt m' ρ (sp_wm ρ) (sp_cl ρ) 8 := by
  have hb := P_le hv.1
  obtain ⟨m2, e2, h2, h3⟩ := laysTold_eq hr hv.1 hv.2.1
  refine ⟨m2, ?_, h2⟩
  unfold fX9_firstOf
  rw [e2, Option.bind_some, in_nI (by omega : p < 8) (by omega), fd_g, if_pos rfl, nI_clamp (by omega), h3 p hp]
theorem first_cc {h ρ : fd_H} {p : Nat} (hv : sp_V1 ρ) (c : CX h ρ) (hp : p < sp_P ρ) : fX8_first (nI p) h = some (sp_fI (sp_f0 ρ p)) := by
  have hb := P_le hv
  unfold fX8_first
  rw [has_y c.P.1 hp (by omega), Option.bind_some, if_pos rfl, c.fst hv hp]; rfl
theorem place_c0 {h ρ : fd_H} {p : Nat} (hv : sp_V1 ρ) (c : CX h ρ) (hp : p < sp_P ρ) : fX8_place (nI p) 0 h = some (nI (sp_ht ρ p)) := by
  have hb := P_le hv
  unfold fX8_place
  rw [has_y c.P.1 hp (by omega), Option.bind_some, if_pos rfl, show fX8_isBelow 0 2 = some true from rfl, Option.bind_some, if_pos rfl, if_pos rfl, at_in (by omega) (by omega), (c.P.2 p hp).1]; rfl
theorem place_c1 {h ρ : fd_H} {p : Nat} (hv : sp_V1 ρ) (c : CX h ρ) (hp : p < sp_P ρ) : fX8_place (nI p) 1 h = some (nI (sp_kd ρ p)) := by
  have hb := P_le hv
  unfold fX8_place
  rw [has_y c.P.1 hp (by omega), Option.bind_some, if_pos rfl, show fX8_isBelow 1 2 = some true from rfl, Option.bind_some, if_pos rfl, if_neg (by decide), at_in (by omega) (by omega), (c.P.2 p hp).2.1]; rfl
theorem year_cc {h ρ : fd_H} {p : Nat} (a : Int32) (hv : sp_V ρ) (c : CX h ρ) (hp : p < sp_P ρ) : ∃ h', fX8_year a (nI p) h = some (sp_fI (sp_fi ρ (sp_wm ρ) (sp_cy ρ a) 8 p), h') ∧ CX h' ρ := by
  have hb := P_le hv.1
  obtain ⟨h', e1, e2⟩ := year_c2 a hv c hp
  refine ⟨h', ?_, e2⟩
  unfold fX8_year
  rw [if_neg (m1_ne (by omega)), has_y c.P.1 hp (by omega), Option.bind_some, if_pos rfl, e1]
theorem place_d {hx hm ρ : fd_H} {p : Nat} (v : Int64) (hv : sp_V ρ) (c : CX hx ρ) (hm0 : mp_R hm ρ) (hp : p < sp_P ρ) : ∃ r hx' hm', fX8_mixPlace v (nI p) hx = some (r, hx') ∧ fX9_placeDigest v (nI p) hm = some (r, hm') ∧ CX hx' ρ ∧ mp_R hm' ρ := by
  have hb := P_le hv.1
  obtain ⟨r1, m1, a1, b1, s1⟩ := r_warmth ρ hx hm 3 (nI p) ⟨hm0.1, hv, c⟩
  obtain ⟨r2, m2, a2, b2, s2⟩ := r_freezes ρ hx m1 3 (nI p) s1
  obtain ⟨m3, b3, s3⟩ := firstOf_m s2.1 hv hp
  obtain ⟨m4, b4, s4⟩ := keepOf_eq (n := 9) (a := -1) s3.1 hv hp (by omega) (Or.inl rfl)
  obtain ⟨m5, b5, s5⟩ := keepOf_eq (n := 9) (a := 0) s4.1 hv hp (by omega) (Or.inr ⟨0, by omega, rfl⟩)
  obtain ⟨m6, b6, s6⟩ := chanceOf_eq (c := 5) (n := 9) (w := 0) s5.1 hv (by omega) hp (by omega) (by omega)
  obtain ⟨m7, b7, s7⟩ := chanceOf_eq (c := 5) (n := 9) (w := 1) s6.1 hv (by omega) hp (by omega) (by omega)
  obtain ⟨m8, b8, s8⟩ := yearOf_2 7 s7.1 hv hp
  obtain ⟨h8, a8, c8⟩ := year_cc 7 hv c hp
  have a3 := first_cc hv.1 c hp
  have a4 : fX8_keep (nI p) 9 (-1) hx = _ := keep_c (n := 9) (a := -1) hv c hp (by omega) (Or.inl rfl)
  have a5 : fX8_keep (nI p) 9 0 hx = _ := keep_c (n := 9) (a := 0) hv c hp (by omega) (Or.inr ⟨0, by omega, rfl⟩)
  have a6 : fX8_chance 5 (nI p) 9 0 hx = _ := chance_c (c := 5) (n := 9) (w := 0) hv c (by omega) hp (by omega) (by omega)
  have a7 : fX8_chance 5 (nI p) 9 1 hx = _ := chance_c (c := 5) (n := 9) (w := 1) hv c (by omega) hp (by omega) (by omega)
  have b4 : fX9_keepOf (nI p) 9 (-1) m3 = _ := b4
  have b5 : fX9_keepOf (nI p) 9 0 m4 = _ := b5
  have b6 : fX9_chanceOf 5 (nI p) 9 0 m5 = _ := b6
  have b7 : fX9_chanceOf 5 (nI p) 9 1 m6 = _ := b7
  refine ⟨List.foldl mx v [(nI (sp_ht ρ p)).toInt64, (nI (sp_kd ρ p)).toInt64, r1.toInt64, r2.toInt64, (sp_fI (sp_f0 ρ p)).toInt64, (sp_kp ρ p 9 (-1)).toInt64, (sp_kp ρ p 9 0).toInt64, sp_ch ρ 5 p 9 0, sp_ch ρ 5 p 9 1, (sp_fI (sp_fi ρ (sp_wm ρ) (sp_cy ρ 7) 8 p)).toInt64], h8, m8, ?_, ?_, c8, s8⟩
  · unfold fX8_mixPlace fX8_mix
    rw [place_c0 hv.1 c hp, place_c1 hv.1 c hp, a1, a2, a3, a4, a5, a6, a7, a8]
    rfl
  · unfold fX9_placeDigest
    rw [in_nI (by omega) (by omega), fd_g, if_pos rfl, fd_lt, fd_g, if_pos rfl, fd_lt, nI_clamp (by omega), (hm0.2.1.2 p hp).1, (hm0.2.1.2 p hp).2, b1, Option.bind_some]; dsimp only
    rw [b2, fd_lt, Option.bind_some]; dsimp only
    rw [b3, fd_lt, Option.bind_some]; dsimp only
    rw [b4, fd_lt, Option.bind_some]; dsimp only
    rw [b5, fd_lt, Option.bind_some]; dsimp only
    rw [b6, fd_lt, Option.bind_some]; dsimp only
    rw [b7, fd_lt, Option.bind_some]; dsimp only
    rw [b8, fd_lt, Option.bind_some]
    rfl
theorem debt_cc {h ρ : fd_H} {d j : Nat} (hv : sp_V1 ρ) (c : CX h ρ) (hd : d < sp_D ρ) (hj : j < 5) : fX8_debt (nI d) (nI j) h = some (nI (sp_f ρ d j)) := by
  have hb := D_le hv
  unfold fX8_debt
  rw [c.D.1, below_y hd (by omega), Option.bind_some, if_pos rfl, show (5 : Int32) = nI 5 from rfl, below_y hj (by omega), Option.bind_some, if_pos rfl, factC hv c.D hd hj]; rfl
def sp_dh (ρ : fd_H) (d : Nat) (v : Int64) : Nat → Int64
  | 0 => v
  | i + 1 => 31 * sp_dh ρ d v i + (nI (sp_f ρ d i)).toInt64
def sp_dv (ρ : fd_H) (d : Nat) (v : Int64) : Int64 := List.foldl mx (sp_dh ρ d v 5) [(sp_la ρ d 0).toInt64, (sp_la ρ d 1).toInt64, (sp_whr ρ d 0 0).toInt64, (sp_whr ρ d 0 1).toInt64, (sp_whr ρ d 1 0).toInt64, (sp_whr ρ d 1 1).toInt64]
theorem debt_dc {h ρ : fd_H} {d : Nat} (v : Int64) (hv : sp_V ρ) (c : CX h ρ) (hd : d < sp_D ρ) : fX8_mixDebt v (nI d) h = some (sp_dv ρ d v) := by
  have a1 : fX8_lasts (nI d) 0 h = _ := lasts_c (j := 0) hv.1 c hd (by omega)
  have a2 : fX8_lasts (nI d) 1 h = _ := lasts_c (j := 1) hv.1 c hd (by omega)
  have a3 : fX8_where (nI d) 0 0 h = _ := where_c (b := 0) (j := 0) hv.1 c hd (by omega) (by omega)
  have a4 : fX8_where (nI d) 0 1 h = _ := where_c (b := 0) (j := 1) hv.1 c hd (by omega) (by omega)
  have a5 : fX8_where (nI d) 1 0 h = _ := where_c (b := 1) (j := 0) hv.1 c hd (by omega) (by omega)
  have a6 : fX8_where (nI d) 1 1 h = _ := where_c (b := 1) (j := 1) hv.1 c hd (by omega) (by omega)
  refine lp0 (F := fun f (u : Int64) i => fX8_mixDebt_L6 v (nI d) h f u i) (fun i => sp_dh ρ d v i) 5 (by omega) ?_ ?_
  · intro f
    show fX8_mixDebt_L6 v (nI d) h (f + 1) (sp_dh ρ d v 5) (nI 5) = _
    rw [fX8_mixDebt_L6]; dsimp only
    rw [if_pos (by decide), a1, a2, a3, a4, a5, a6]
    rfl
  · intro f i hi
    show fX8_mixDebt_L6 v (nI d) h (f + 1) (sp_dh ρ d v i) (nI i) = fX8_mixDebt_L6 v (nI d) h f (31 * sp_dh ρ d v i + (nI (sp_f ρ d i)).toInt64) (nI (i + 1))
    rw [fX8_mixDebt_L6]; dsimp only
    unfold fX8_mix
    rw [show (5 : Int32) = nI 5 from rfl, if_neg (nI_ge hi (by omega)), debt_cc hv.1 c hd hi, Option.bind_some, Option.bind_some, nI_1]
theorem debt_dm {m ρ : fd_H} {d : Nat} (v : Int64) (hv : sp_V ρ) (h : mp_R m ρ) (hd : d < sp_D ρ) : ∃ m', fX9_debtDigest v (nI d) m = some (sp_dv ρ d v, m') ∧ mp_R m' ρ := by
  obtain ⟨m1, b1, s1⟩ := lastsOf_eq (j := 0) h.1 hv hd (by omega)
  obtain ⟨m2, b2, s2⟩ := lastsOf_eq (j := 1) s1.1 hv hd (by omega)
  obtain ⟨m3, b3, s3⟩ := whereOf_eq (b := 0) (j := 0) s2.1 hv hd (by omega) (by omega)
  obtain ⟨m4, b4, s4⟩ := whereOf_eq (b := 0) (j := 1) s3.1 hv hd (by omega) (by omega)
  obtain ⟨m5, b5, s5⟩ := whereOf_eq (b := 1) (j := 0) s4.1 hv hd (by omega) (by omega)
  obtain ⟨m6, b6, s6⟩ := whereOf_eq (b := 1) (j := 1) s5.1 hv hd (by omega) (by omega)
  refine ⟨m6, ?_, mt_R s6⟩
  have b1 : fX9_lastsOf (nI d) 0 m = _ := b1
  have b2 : fX9_lastsOf (nI d) 1 m1 = _ := b2
  have b3 : fX9_whereOf (nI d) 0 0 m2 = _ := b3
  have b4 : fX9_whereOf (nI d) 0 1 m3 = _ := b4
  have b5 : fX9_whereOf (nI d) 1 0 m4 = _ := b5
  have b6 : fX9_whereOf (nI d) 1 1 m5 = _ := b6
  refine lp0 (F := fun f (u : Int64) i => fX9_debtDigest_L6 v (nI d) f u i m) (fun i => sp_dh ρ d v i) 5 (by omega) ?_ ?_
  · intro f
    show fX9_debtDigest_L6 v (nI d) (f + 1) (sp_dh ρ d v 5) (nI 5) m = _
    rw [fX9_debtDigest_L6]; dsimp only
    rw [if_pos (by decide), b1, Option.bind_some]; dsimp only
    rw [b2, fd_lt, Option.bind_some]; dsimp only
    rw [b3, fd_lt, Option.bind_some]; dsimp only
    rw [b4, fd_lt, Option.bind_some]; dsimp only
    rw [b5, fd_lt, Option.bind_some]; dsimp only
    rw [b6, fd_lt, Option.bind_some]
    rfl
  · intro f i hi
    show fX9_debtDigest_L6 v (nI d) (f + 1) (sp_dh ρ d v i) (nI i) m = fX9_debtDigest_L6 v (nI d) f (31 * sp_dh ρ d v i + (nI (sp_f ρ d i)).toInt64) (nI (i + 1)) m
    rw [fX9_debtDigest_L6]; dsimp only
    rw [show (5 : Int32) = nI 5 from rfl, if_neg (nI_ge hi (by omega)), debtOf_eq hv.1 h.2.2.2 hd hi, Option.bind_some, fd_lt, nI_1]
theorem car_both {hx hm ρ : fd_H} {a : Nat} {c : Int32} (hr : sp_raw hm = ρ) (hv : sp_V ρ) (cx : CX hx ρ) (ha : a < 6) (hc : c = -1 ∨ ∃ j, j < 3 ∧ c = nI j) : ∃ r m', fX8_carry (nI a) 5 c hx = some r ∧ fX9_carry (nI a) 5 c hm = some (r, m') ∧ sp_raw m' = ρ := by
  have hN := N_le hv.1
  by_cases q : 5 < sp_N ρ
  · obtain ⟨m', e1, e2⟩ := carry_m hr hv ha q hc
    exact ⟨_, m', carry_c hv cx ha q hc, e1, e2.1⟩
  · have h : (5 : Int32) < 0 ∨ nI (sp_N ρ) ≤ 5 := Or.inr (nI_le (b := 5) (by omega) (by omega))
    obtain ⟨m', e1, e2⟩ := carry_mn (c := c) hr hv ha h
    exact ⟨_, m', carry_cn cx ha h, e1, e2.1⟩
theorem night_d {hx hm ρ : fd_H} {n : Nat} (v : Int64) (hv : sp_V ρ) (c : CX hx ρ) (hr : sp_raw hm = ρ) (hn : n < 40) : ∃ r hx' hm', fX8_mixNight v (nI n) hx = some (r, hx') ∧ fX9_nightDigest v (nI n) hm = some (r, hm') ∧ CX hx' ρ ∧ sp_raw hm' = ρ := by
  obtain ⟨m1, b1, s1⟩ := hadOf_eq hr hv hn
  obtain ⟨m2, b2, s2⟩ := hangsOf_eq s1.1 hv hn
  obtain ⟨r3, h3, m3, a3, b3, s3⟩ := r_was ρ hx m2 (nI n) ⟨s2.1, hv, c⟩
  obtain ⟨r4, h4, m4, a4, b4, s4⟩ := r_ask ρ h3 m3 (nI n) s3
  refine ⟨List.foldl mx v [(sp_had ρ n).toInt64, (sp_hg ρ n).toInt64, r3.toInt64, r4.toInt64], h4, m4, ?_, ?_, s4.2.2, s4.1⟩
  · unfold fX8_mixNight fX8_mix
    rw [had_c hv.1 c hn, hangs_c hv.1 c hn, a3, Option.bind_some, Option.bind_some, Option.bind_some, Option.bind_some, Option.bind_some]; dsimp only
    rw [a4]
    rfl
  · unfold fX9_nightDigest
    rw [b1, Option.bind_some]; dsimp only
    rw [b2, fd_lt, Option.bind_some]; dsimp only
    rw [b3, fd_lt, Option.bind_some]; dsimp only
    rw [b4, fd_lt, Option.bind_some]
    rfl
theorem lpt2 {α β R R' : Type} {F : Nat → α → Int32 → Option R} {G : Nat → β → Int32 → Option R'} (J : Nat → α → β → Prop) (m : Nat) {post : Option R → Option R' → Prop} (hx : ∀ n a b, J m a b → post (F (n + 1) a (nI m)) (G (n + 1) b (nI m))) (hs : ∀ n i a b, i < m → J i a b → ∃ a' b', J (i + 1) a' b' ∧ F (n + 1) a (nI i) = F n a' (nI (i + 1)) ∧ G (n + 1) b (nI i) = G n b' (nI (i + 1))) : ∀ n i a b, i ≤ m → m - i < n → J i a b → post (F n a (nI i)) (G n b (nI i)) := by
  intro n
  induction n with
  | zero => intro i a b hi hn; omega
  | succ n ih =>
    intro i a b hi hn hj
    rcases Nat.lt_or_ge i m with h | h
    · obtain ⟨a', b', h1, h2, h3⟩ := hs n i a b h hj
      rw [h2, h3]
      exact ih (i + 1) a' b' h (by omega) h1
    · have e : i = m := by omega
      subst e
      exact hx n a b hj
def PO (o o' : Option (Int64 × fd_H)) : Prop := ∃ r hx' hm', o = some (r, hx') ∧ o' = some (r, hm') ∧ RR hx' hm'
def JR (ρ : fd_H) (a b : Int64 × fd_H) : Prop := a.1 = b.1 ∧ CX a.2 ρ ∧ sp_raw b.2 = ρ
def JM (ρ : fd_H) (a b : Int64 × fd_H) : Prop := a.1 = b.1 ∧ CX a.2 ρ ∧ mp_R b.2 ρ
theorem dg_4 {hx hm ρ : fd_H} (v : Int64) (hv : sp_V ρ) (c : CX hx ρ) (hr : sp_raw hm = ρ) : PO (fX8_digest_L107 fd_fu v 0 hx) (fX9_digest_L105 fd_fu v 0 hm) := by
  refine lpt2 (F := fun f (s : Int64 × fd_H) i => fX8_digest_L107 f s.1 i s.2) (G := fun f (s : Int64 × fd_H) i => fX9_digest_L105 f s.1 i s.2) (fun _ => JR ρ) 6 (post := PO) ?_ ?_ fd_fu 0 (v, hx) (v, hm) (Nat.zero_le _) (by have := fu_ge; omega) ⟨rfl, c, hr⟩
  · rintro n ⟨v1, hx⟩ ⟨v2, hm⟩ ⟨e, c, hr⟩
    have e : v1 = v2 := e
    subst e
    obtain ⟨r1, h1, m1, a1, b1, c1, s1⟩ := night_d (n := 0) v1 hv c hr (by omega)
    obtain ⟨r2, h2, m2, a2, b2, c2, s2⟩ := night_d (n := 5) r1 hv c1 s1 (by omega)
    obtain ⟨r3, h3, m3, a3, b3, c3, s3⟩ := night_d (n := 20) r2 hv c2 s2 (by omega)
    obtain ⟨r4, h4, m4, a4, b4, c4, s4⟩ := night_d (n := 39) r3 hv c3 s3 (by omega)
    obtain ⟨m5, b5, s5⟩ := neverNow_eq s4 hv
    obtain ⟨m6, b6, s6⟩ := carriedNow_eq s5.1 hv
    obtain ⟨h6, a6, c6⟩ := carried_c hv c4
    obtain ⟨m7, b7, s7⟩ := yearOf_1 7 s6.1 hv
    obtain ⟨h7, a7, c7⟩ := year_c1 7 hv c6
    have a1 : fX8_mixNight v1 0 hx = _ := a1
    have a2 : fX8_mixNight r1 5 h1 = _ := a2
    have a3 : fX8_mixNight r2 20 h2 = _ := a3
    have a4 : fX8_mixNight r3 39 h3 = _ := a4
    have b1 : fX9_nightDigest v1 0 hm = _ := b1
    have b2 : fX9_nightDigest r1 5 m1 = _ := b2
    have b3 : fX9_nightDigest r2 20 m2 = _ := b3
    have b4 : fX9_nightDigest r3 39 m3 = _ := b4
    refine ⟨List.foldl mx r4 [(sp_nv ρ).toInt64, (sp_cd ρ).toInt64, (nI (sp_yn ρ 7)).toInt64], h7, m7, ?_, ?_, ρ, s7.1, hv, c7⟩
    · show fX8_digest_L107 (n + 1) v1 (nI 6) hx = _
      rw [fX8_digest_L107]; dsimp only
      unfold fX8_mix fX8_year
      rw [if_pos (by decide), a1, Option.bind_some]; dsimp only
      rw [a2, Option.bind_some]; dsimp only
      rw [a3, Option.bind_some]; dsimp only
      rw [a4, Option.bind_some]; dsimp only
      rw [never_c hv.1 c4, Option.bind_some, Option.bind_some, a6, Option.bind_some, Option.bind_some, if_pos rfl]; dsimp only
      rw [a7]
      rfl
    · show fX9_digest_L105 (n + 1) v1 (nI 6) hm = _
      rw [fX9_digest_L105]; dsimp only
      rw [if_pos (by decide), b1, Option.bind_some]; dsimp only
      rw [b2, Option.bind_some]; dsimp only
      rw [b3, Option.bind_some]; dsimp only
      rw [b4, Option.bind_some]; dsimp only
      rw [b5, Option.bind_some]; dsimp only
      rw [b6, fd_lt, Option.bind_some]; dsimp only
      rw [b7, fd_lt, Option.bind_some]
      rfl
  · rintro n i ⟨v1, hx⟩ ⟨v2, hm⟩ hi ⟨e, c, hr⟩
    have e : v1 = v2 := e
    subst e
    have hr : sp_raw hm = ρ := hr
    have c : CX hx ρ := c
    obtain ⟨m1, b1, s1⟩ := owesOf_eq (a := i) (n := 5) (j := 0) hr hv hi (by omega) (by omega)
    obtain ⟨m2, b2, s2⟩ := owesOf_eq (a := i) (n := 5) (j := 1) s1.1 hv hi (by omega) (by omega)
    obtain ⟨m3, b3, s3⟩ := freeOf_eq (a := i) (c := 0) s2.1 hv hi (by omega)
    obtain ⟨r4, m4, a4, b4, s4⟩ := car_both (c := -1) s3.1 hv c hi (Or.inl rfl)
    obtain ⟨r5, m5, a5, b5, s5⟩ := car_both (c := 0) s4 hv c hi (Or.inr ⟨0, by omega, rfl⟩)
    have a1 : fX8_owes (nI i) 5 0 hx = _ := owes_cc (a := i) (n := 5) (j := 0) hv.1 c hi (by omega) (by omega)
    have a2 : fX8_owes (nI i) 5 1 hx = _ := owes_cc (a := i) (n := 5) (j := 1) hv.1 c hi (by omega) (by omega)
    have a3 : fX8_free (nI i) 0 hx = _ := free_c (a := i) (c := 0) hv.1 c hi (by omega)
    have b1 : fX9_owesOf (nI i) 5 0 hm = _ := b1
    have b2 : fX9_owesOf (nI i) 5 1 m1 = _ := b2
    have b3 : fX9_freeOf (nI i) 0 m2 = _ := b3
    have w : ∃ r, r = List.foldl mx v1 [(nI (sp_ow ρ (sp_f0 ρ) 0 i 5)).toInt64, (nI (sp_ow ρ (sp_f0 ρ) 1 i 5)).toInt64, (sp_v4 (sp_fx ρ i 0 (sp_D ρ))).toInt64, r4.toInt64, r5.toInt64] := ⟨_, rfl⟩
    obtain ⟨r, er⟩ := w
    have p1 : fX8_mixPerson v1 (nI i) hx = some r := by
      unfold fX8_mixPerson fX8_mix
      rw [a1, a2, a3, a4, a5, er]
      rfl
    refine ⟨(r, hx), (r, m5), ⟨rfl, c, s5⟩, ?_, ?_⟩
    · show fX8_digest_L107 (n + 1) v1 (nI i) hx = fX8_digest_L107 n r (nI (i + 1)) hx
      rw [fX8_digest_L107]; dsimp only
      rw [show (6 : Int32) = nI 6 from rfl, if_neg (nI_ge hi (by omega)), p1, Option.bind_some, nI_1]
    · show fX9_digest_L105 (n + 1) v1 (nI i) hm = fX9_digest_L105 n r (nI (i + 1)) m5
      rw [fX9_digest_L105]; dsimp only
      rw [show (6 : Int32) = nI 6 from rfl, if_neg (nI_ge hi (by omega)), b1, Option.bind_some]; dsimp only
      rw [b2, fd_lt, Option.bind_some]; dsimp only
      rw [b3, fd_lt, Option.bind_some]; dsimp only
      rw [b4, fd_lt, Option.bind_some]; dsimp only
      rw [b5, fd_lt, Option.bind_some, fd_lt, nI_1, er]
      rfl
theorem dg_3 {hx hm ρ : fd_H} (v : Int64) (hv : sp_V ρ) (c : CX hx ρ) (hr : mp_R hm ρ) : PO (fX8_digest_L81 fd_fu v 0 hx) (fX9_digest_L82 fd_fu v 0 hm) := by
  have hb := D_le hv.1
  refine lpt2 (F := fun f (s : Int64 × fd_H) i => fX8_digest_L81 f s.1 i s.2) (G := fun f (s : Int64 × fd_H) i => fX9_digest_L82 f s.1 i s.2) (fun _ => JM ρ) (sp_D ρ) (post := PO) ?_ ?_ fd_fu 0 (v, hx) (v, hm) (Nat.zero_le _) (by have := fu_ge; omega) ⟨rfl, c, hr⟩
  · rintro n ⟨v1, hx⟩ ⟨v2, hm⟩ ⟨e, c, hr⟩
    have e : v1 = v2 := e
    subst e
    have hr : mp_R hm ρ := hr
    have c : CX hx ρ := c
    show PO (fX8_digest_L81 (n + 1) v1 (nI (sp_D ρ)) hx) (fX9_digest_L82 (n + 1) v1 (nI (sp_D ρ)) hm)
    rw [fX8_digest_L81, fX9_digest_L82]; dsimp only
    rw [c.D.1, hr.2.2.2.1, if_pos (nI_le (Nat.le_refl _) (by omega)), if_pos (nI_le (Nat.le_refl _) (by omega))]
    exact dg_4 v1 hv c hr.1
  · rintro n i ⟨v1, hx⟩ ⟨v2, hm⟩ hi ⟨e, c, hr⟩
    have e : v1 = v2 := e
    subst e
    have hr : mp_R hm ρ := hr
    have c : CX hx ρ := c
    obtain ⟨m', b1, s1⟩ := debt_dm v1 hv hr hi
    refine ⟨(sp_dv ρ i v1, hx), (sp_dv ρ i v1, m'), ⟨rfl, c, s1⟩, ?_, ?_⟩
    · show fX8_digest_L81 (n + 1) v1 (nI i) hx = fX8_digest_L81 n (sp_dv ρ i v1) (nI (i + 1)) hx
      rw [fX8_digest_L81]; dsimp only
      rw [c.D.1, if_neg (nI_ge hi (by omega)), debt_dc v1 hv c hi, Option.bind_some, nI_1]
    · show fX9_digest_L82 (n + 1) v1 (nI i) hm = fX9_digest_L82 n (sp_dv ρ i v1) (nI (i + 1)) m'
      rw [fX9_digest_L82]; dsimp only
      rw [hr.2.2.2.1, if_neg (nI_ge hi (by omega)), b1, Option.bind_some, nI_1]
theorem dg_2 {hx hm ρ : fd_H} (v : Int64) (hv : sp_V ρ) (c : CX hx ρ) (hr : mp_R hm ρ) : PO (fX8_digest_L55 fd_fu v 0 hx) (fX9_digest_L59 fd_fu v 0 hm) := by
  have hb := P_le hv.1
  refine lpt2 (F := fun f (s : Int64 × fd_H) i => fX8_digest_L55 f s.1 i s.2) (G := fun f (s : Int64 × fd_H) i => fX9_digest_L59 f s.1 i s.2) (fun _ => JM ρ) (sp_P ρ) (post := PO) ?_ ?_ fd_fu 0 (v, hx) (v, hm) (Nat.zero_le _) (by have := fu_ge; omega) ⟨rfl, c, hr⟩
  · rintro n ⟨v1, hx⟩ ⟨v2, hm⟩ ⟨e, c, hr⟩
    have e : v1 = v2 := e
    subst e
    have hr : mp_R hm ρ := hr
    have c : CX hx ρ := c
    show PO (fX8_digest_L55 (n + 1) v1 (nI (sp_P ρ)) hx) (fX9_digest_L59 (n + 1) v1 (nI (sp_P ρ)) hm)
    rw [fX8_digest_L55, fX9_digest_L59]; dsimp only
    rw [c.P.1, hr.2.1.1, if_pos (nI_le (Nat.le_refl _) (by omega)), if_pos (nI_le (Nat.le_refl _) (by omega))]
    exact dg_3 v1 hv c hr
  · rintro n i ⟨v1, hx⟩ ⟨v2, hm⟩ hi ⟨e, c, hr⟩
    have e : v1 = v2 := e
    subst e
    have hr : mp_R hm ρ := hr
    have c : CX hx ρ := c
    obtain ⟨r, h', m', a1, b1, c1, s1⟩ := place_d v1 hv c hr hi
    refine ⟨(r, h'), (r, m'), ⟨rfl, c1, s1⟩, ?_, ?_⟩
    · show fX8_digest_L55 (n + 1) v1 (nI i) hx = fX8_digest_L55 n r (nI (i + 1)) h'
      rw [fX8_digest_L55]; dsimp only
      rw [c.P.1, if_neg (nI_ge hi (by omega)), a1, Option.bind_some, nI_1]
    · show fX9_digest_L59 (n + 1) v1 (nI i) hm = fX9_digest_L59 n r (nI (i + 1)) m'
      rw [fX9_digest_L59]; dsimp only
      rw [hr.2.1.1, if_neg (nI_ge hi (by omega)), b1, Option.bind_some, nI_1]
theorem fault_cc {h ρ : fd_H} {t : Nat} (hv : sp_V1 ρ) (c : CX h ρ) (ht : t < 3) : fX8_fault (nI t) h = some (sp_fault ρ t) := by
  unfold fX8_fault
  rw [show (3 : Int32) = nI 3 from rfl, below_y ht (by omega), Option.bind_some, if_pos rfl, in_nI ht (by omega), fd_g, if_pos rfl, nI_clamp (by omega), tn_eq ht, fault_c hv c.T ht]; rfl
theorem dg_1 {hx hm ρ : fd_H} (v : Int64) (hv : sp_V ρ) (c : CX hx ρ) (hr : sp_raw hm = ρ) : PO (fX8_digest_L31 fd_fu v 0 hx) (fX9_digest_L33 fd_fu v 0 hm) := by
  refine lpt2 (F := fun f (s : Int64 × fd_H) i => fX8_digest_L31 f s.1 i s.2) (G := fun f (s : Int64 × fd_H) i => fX9_digest_L33 f s.1 i s.2) (fun i a b => JR ρ a b ∧ (0 < i → mp_R b.2 ρ)) 3 (post := PO) ?_ ?_ fd_fu 0 (v, hx) (v, hm) (Nat.zero_le _) (by have := fu_ge; omega) ⟨⟨rfl, c, hr⟩, fun h => absurd h (Nat.lt_irrefl 0)⟩
  · rintro n ⟨v1, hx⟩ ⟨v2, hm⟩ ⟨⟨e, c, hr⟩, h2⟩
    have e : v1 = v2 := e
    subst e
    have c : CX hx ρ := c
    show PO (fX8_digest_L31 (n + 1) v1 (nI 3) hx) (fX9_digest_L33 (n + 1) v1 (nI 3) hm)
    rw [fX8_digest_L31, fX9_digest_L33]; dsimp only
    rw [if_pos (by decide), if_pos (by decide)]
    exact dg_2 v1 hv c (h2 (by omega))
  · rintro n i ⟨v1, hx⟩ ⟨v2, hm⟩ hi ⟨⟨e, c, hr⟩, -⟩
    have e : v1 = v2 := e
    subst e
    have hr : sp_raw hm = ρ := hr
    have c : CX hx ρ := c
    obtain ⟨m', b1, s1⟩ := mfault_eq hr hv.1 hi
    refine ⟨(mx v1 (sp_fault ρ i).toInt64, hx), (mx v1 (sp_fault ρ i).toInt64, m'), ⟨⟨rfl, c, s1.1⟩, fun _ => s1⟩, ?_, ?_⟩
    · show fX8_digest_L31 (n + 1) v1 (nI i) hx = fX8_digest_L31 n (mx v1 (sp_fault ρ i).toInt64) (nI (i + 1)) hx
      rw [fX8_digest_L31]; dsimp only
      unfold fX8_mix
      rw [show (3 : Int32) = nI 3 from rfl, if_neg (nI_ge hi (by omega)), fault_cc hv.1 c hi, Option.bind_some, Option.bind_some, nI_1]
      rfl
    · show fX9_digest_L33 (n + 1) v1 (nI i) hm = fX9_digest_L33 n (mx v1 (sp_fault ρ i).toInt64) (nI (i + 1)) m'
      rw [fX9_digest_L33]; dsimp only
      rw [show (3 : Int32) = nI 3 from rfl, if_neg (nI_ge hi (by omega)), b1, Option.bind_some, fd_lt, nI_1]
      rfl
theorem q_digest : pp_digest RR := by
  intro hx hm ⟨ρ, hr, hv, hc⟩
  refine lpt2 (F := fun f (s : Int64 × fd_H) i => fX8_digest_L6 f s.1 i s.2) (G := fun f (s : Int64 × fd_H) i => fX9_digest_L6 f s.1 i s.2) (fun _ => JR ρ) 8 (post := PO) ?_ ?_ fd_fu 0 (17, hx) (17, hm) (Nat.zero_le _) (by have := fu_ge; omega) ⟨rfl, hc, hr⟩
  · rintro n ⟨v1, hx⟩ ⟨v2, hm⟩ ⟨e, c, hr⟩
    have e : v1 = v2 := e
    subst e
    have c : CX hx ρ := c
    show PO (fX8_digest_L6 (n + 1) v1 (nI 8) hx) (fX9_digest_L6 (n + 1) v1 (nI 8) hm)
    rw [fX8_digest_L6, fX9_digest_L6]; dsimp only
    rw [if_pos (by decide), if_pos (by decide)]
    exact dg_1 v1 hv c hr
  · rintro n i ⟨v1, hx⟩ ⟨v2, hm⟩ hi ⟨e, c, hr⟩
    have e : v1 = v2 := e
    subst e
    have hr : sp_raw hm = ρ := hr
    have c : CX hx ρ := c
    obtain ⟨r, m', a1, b1, s1⟩ := r_count ρ hx hm (nI i) ⟨hr, hv, c⟩
    refine ⟨(mx v1 r.toInt64, hx), (mx v1 r.toInt64, m'), ⟨rfl, c, s1.1⟩, ?_, ?_⟩
    · show fX8_digest_L6 (n + 1) v1 (nI i) hx = fX8_digest_L6 n (mx v1 r.toInt64) (nI (i + 1)) hx
      rw [fX8_digest_L6]; dsimp only
      unfold fX8_mix
      rw [show (8 : Int32) = nI 8 from rfl, if_neg (nI_ge hi (by omega)), a1, Option.bind_some, Option.bind_some, nI_1]
      rfl
    · show fX9_digest_L6 (n + 1) v1 (nI i) hm = fX9_digest_L6 n (mx v1 r.toInt64) (nI (i + 1)) m'
      rw [fX9_digest_L6]; dsimp only
      rw [show (8 : Int32) = nI 8 from rfl, if_neg (nI_ge hi (by omega)), b1, Option.bind_some, fd_lt, nI_1]
      rfl
