/-! ===== copy ===== -/
theorem nlt_to {a b : Int32} (h : ¬ a < b) : b.toInt ≤ a.toInt := by
  rcases Int.lt_or_le a.toInt b.toInt with q | q
  · exact absurd (Int32.lt_iff_toInt_lt.mpr q) h
  · exact q
theorem range_c {h : fd_H} {k z : Nat} (a n : Int32) (hz : h.1 k 3 = nI z) (hz8 : z ≤ 48) : fX4_hasRange k a n h = some (decide (0 ≤ a.toInt ∧ 0 ≤ n.toInt ∧ a.toInt + n.toInt ≤ z)) := by
  have e0 : (0 : Int32).toInt = 0 := rfl
  have ez : (nI z).toInt = z := nI_toInt (by omega)
  unfold fX4_hasRange
  rw [hz]
  by_cases c1 : a < 0
  · have := Int32.lt_iff_toInt_lt.mp c1
    rw [if_pos c1, decide_eq_false (by omega)]
  · have c1' : 0 ≤ a.toInt := by
      have := nlt_to c1; omega
    rw [if_neg c1]
    by_cases c2 : n < 0
    · have := Int32.lt_iff_toInt_lt.mp c2
      rw [if_pos c2, decide_eq_false (by omega)]
    · have c2' : 0 ≤ n.toInt := by
        have := nlt_to c2; omega
      rw [if_neg c2]
      by_cases c3 : nI z < n
      · have := Int32.lt_iff_toInt_lt.mp c3
        rw [if_pos c3, decide_eq_false (by omega)]
      · have c3' : n.toInt ≤ z := by
          have := nlt_to c3; omega
        have es : (nI z - n).toInt = z - n.toInt := by rw [Jvm.Kit.i32_sub (by omega) (by omega), ez]
        rw [if_neg c3]
        by_cases c4 : nI z - n < a
        · have := Int32.lt_iff_toInt_lt.mp c4
          rw [if_pos c4, decide_eq_false (by omega)]
        · have c4' : a.toInt ≤ z - n.toInt := by
            have := nlt_to c4; omega
          rw [if_neg c4, decide_eq_true (by omega)]
theorem take_c {h : fd_H} {s d i j n : Nat} (hs : s < 4) (hd : d < 4) (hi : i + n ≤ 48) (hj : j + n ≤ 48) : ∃ h', fX4_take (61 + 3 * d) (61 + 3 * s) (nI i) (nI j) (nI n) h = some h' ∧ h'.2 = h.2 ∧ (∀ x y, x ≠ 63 + 3 * d → h'.1 x y = h.1 x y) ∧ ∀ y, h'.1 (63 + 3 * d) y = if j ≤ y ∧ y < j + n then h.1 (63 + 3 * s) (i + (y - j)) else h.1 (63 + 3 * d) y := by
  have l27 : ∀ (K : Int32 → fd_H → Option fd_H) (v u : Nat) (g : fd_H), u < n → fX4_take_L27 (61 + 3 * d) (61 + 3 * s) (nI i) (nI j) (nI n) K (nI v) (nI u) g = K (nI (v + 1)) (fd_ui g (63 + 3 * d) (j + u) (g.1 (63 + 3 * s) (i + u))) := by
    intro K v u g hu
    unfold fX4_take_L27
    rw [nI_add, nI_add, at_in (by omega) (by omega), Option.bind_some, set_in (by omega) (by omega), Option.bind_some, nI_1, show 61 + 3 * s + 1 + 1 = 63 + 3 * s by omega, show 61 + 3 * d + 1 + 1 = 63 + 3 * d by omega]
  by_cases c : j ≤ i
  · refine lpi0 (F := fun f g v => fX4_take_L3 (61 + 3 * d) (61 + 3 * s) (nI i) (nI j) (nI n) f v g) (fun v g => g.2 = h.2 ∧ (∀ x y, x ≠ 63 + 3 * d → g.1 x y = h.1 x y) ∧ ∀ y, g.1 (63 + 3 * d) y = if j ≤ y ∧ y < j + v then h.1 (63 + 3 * s) (i + (y - j)) else h.1 (63 + 3 * d) y) n (by omega) (post := fun o => ∃ h', o = some h' ∧ h'.2 = h.2 ∧ (∀ x y, x ≠ 63 + 3 * d → h'.1 x y = h.1 x y) ∧ ∀ y, h'.1 (63 + 3 * d) y = if j ≤ y ∧ y < j + n then h.1 (63 + 3 * s) (i + (y - j)) else h.1 (63 + 3 * d) y) ⟨rfl, fun x y _ => rfl, fun y => by rw [if_neg (by omega)]⟩ ?_ ?_
    · intro f g hg
      refine ⟨g, ?_, hg⟩
      show fX4_take_L3 (61 + 3 * d) (61 + 3 * s) (nI i) (nI j) (nI n) (f + 1) (nI n) g = _
      rw [fX4_take_L3]; dsimp only
      rw [if_pos (nI_le (Nat.le_refl _) (by omega))]
    · intro f v g hv ⟨g1, g2, g3⟩
      have e : g.1 (63 + 3 * s) (i + v) = h.1 (63 + 3 * s) (i + v) := by
        by_cases q : s = d
        · subst q; rw [g3, if_neg (by omega)]
        · exact g2 _ _ (by omega)
      refine ⟨fd_ui g (63 + 3 * d) (j + v) (g.1 (63 + 3 * s) (i + v)), ⟨g1, fun x y a => by rw [ui_g (by omega)]; exact g2 x y a, fun y => ?_⟩, ?_⟩
      · by_cases q : y = j + v
        · subst q
          rw [ui_s, e, if_pos (by omega), show j + v - j = v by omega]
        · rw [ui_g (by omega), g3 y]
          by_cases q2 : j ≤ y ∧ y < j + v
          · rw [if_pos q2, if_pos (by omega)]
          · rw [if_neg q2, if_neg (by omega)]
      · show fX4_take_L3 (61 + 3 * d) (61 + 3 * s) (nI i) (nI j) (nI n) (f + 1) (nI v) g = fX4_take_L3 (61 + 3 * d) (61 + 3 * s) (nI i) (nI j) (nI n) f (nI (v + 1)) _
        rw [fX4_take_L3]; dsimp only
        rw [if_neg (nI_ge hv (by omega)), if_pos (nI_le c (by omega)), l27 _ v v g hv]
  · refine lpi0 (F := fun f g v => fX4_take_L3 (61 + 3 * d) (61 + 3 * s) (nI i) (nI j) (nI n) f v g) (fun v g => g.2 = h.2 ∧ (∀ x y, x ≠ 63 + 3 * d → g.1 x y = h.1 x y) ∧ ∀ y, g.1 (63 + 3 * d) y = if j + n - v ≤ y ∧ y < j + n then h.1 (63 + 3 * s) (i + (y - j)) else h.1 (63 + 3 * d) y) n (by omega) (post := fun o => ∃ h', o = some h' ∧ h'.2 = h.2 ∧ (∀ x y, x ≠ 63 + 3 * d → h'.1 x y = h.1 x y) ∧ ∀ y, h'.1 (63 + 3 * d) y = if j ≤ y ∧ y < j + n then h.1 (63 + 3 * s) (i + (y - j)) else h.1 (63 + 3 * d) y) ⟨rfl, fun x y _ => rfl, fun y => by rw [if_neg (by omega)]⟩ ?_ ?_
    · intro f g ⟨g1, g2, g3⟩
      refine ⟨g, ?_, g1, g2, fun y => by rw [g3 y, show j + n - n = j by omega]⟩
      show fX4_take_L3 (61 + 3 * d) (61 + 3 * s) (nI i) (nI j) (nI n) (f + 1) (nI n) g = _
      rw [fX4_take_L3]; dsimp only
      rw [if_pos (nI_le (Nat.le_refl _) (by omega))]
    · intro f v g hv ⟨g1, g2, g3⟩
      have e : g.1 (63 + 3 * s) (i + (n - 1 - v)) = h.1 (63 + 3 * s) (i + (n - 1 - v)) := by
        by_cases q : s = d
        · subst q; rw [g3, if_neg (by omega)]
        · exact g2 _ _ (by omega)
      refine ⟨fd_ui g (63 + 3 * d) (j + (n - 1 - v)) (g.1 (63 + 3 * s) (i + (n - 1 - v))), ⟨g1, fun x y a => by rw [ui_g (by omega)]; exact g2 x y a, fun y => ?_⟩, ?_⟩
      · by_cases q : y = j + (n - 1 - v)
        · subst q
          rw [ui_s, e, if_pos (by omega), show j + (n - 1 - v) - j = n - 1 - v by omega]
        · rw [ui_g (by omega), g3 y]
          by_cases q2 : j + n - v ≤ y ∧ y < j + n
          · rw [if_pos q2, if_pos (by omega)]
          · rw [if_neg q2, if_neg (by omega)]
      · show fX4_take_L3 (61 + 3 * d) (61 + 3 * s) (nI i) (nI j) (nI n) (f + 1) (nI v) g = fX4_take_L3 (61 + 3 * d) (61 + 3 * s) (nI i) (nI j) (nI n) f (nI (v + 1)) _
        rw [fX4_take_L3]; dsimp only
        rw [if_neg (nI_ge hv (by omega)), if_neg (nI_ge (by omega) (by omega)), show (1 : Int32) = nI 1 from rfl, pk_sub (by omega), pk_sub (by omega), l27 _ v (n - 1 - v) g (by omega)]
theorem take_m {m : fd_H} {s d i j n : Nat} (hs : s < 4) (hd : d < 4) (hi : i + n ≤ 48) (hj : j + n ≤ 48) : ∃ m', fX9_copy_L120 (nI s) (nI i) (nI d) (nI j) (nI n) fd_fu 0 m = some (1, m') ∧ (∀ x y, x ≠ 97 → ¬ (x = 96 ∧ 48 * d + j ≤ y ∧ y < 48 * d + j + n) → m'.1 x y = m.1 x y) ∧ ∀ u, u < n → m'.1 96 (48 * d + j + u) = m.1 96 (48 * s + i + u) := by
  refine lpi0 (F := fun f g v => fX9_copy_L120 (nI s) (nI i) (nI d) (nI j) (nI n) f v g) (fun v g => (∀ x y, x ≠ 97 → g.1 x y = m.1 x y) ∧ ∀ u, u < v → g.1 97 u = m.1 96 (48 * s + i + u)) n (by omega) (post := fun o => ∃ m', o = some (1, m') ∧ (∀ x y, x ≠ 97 → ¬ (x = 96 ∧ 48 * d + j ≤ y ∧ y < 48 * d + j + n) → m'.1 x y = m.1 x y) ∧ ∀ u, u < n → m'.1 96 (48 * d + j + u) = m.1 96 (48 * s + i + u)) ⟨fun x y _ => rfl, fun u hu => absurd hu (Nat.not_lt_zero u)⟩ ?_ ?_
  · intro f g ⟨g1, g2⟩
    show ∃ m', fX9_copy_L120 (nI s) (nI i) (nI d) (nI j) (nI n) (f + 1) (nI n) g = some (1, m') ∧ _
    rw [fX9_copy_L120]; dsimp only
    rw [if_pos (nI_le (Nat.le_refl _) (by omega))]
    refine lpi0 (F := fun f g v => fX9_copy_L157 (nI s) (nI i) (nI d) (nI j) (nI n) f v g) (fun v k => (∀ x y, ¬ (x = 96 ∧ 48 * d + j ≤ y ∧ y < 48 * d + j + n) → k.1 x y = g.1 x y) ∧ ∀ u, u < v → k.1 96 (48 * d + j + u) = m.1 96 (48 * s + i + u)) n (by omega) (post := fun o => ∃ m', o = some (1, m') ∧ (∀ x y, x ≠ 97 → ¬ (x = 96 ∧ 48 * d + j ≤ y ∧ y < 48 * d + j + n) → m'.1 x y = m.1 x y) ∧ ∀ u, u < n → m'.1 96 (48 * d + j + u) = m.1 96 (48 * s + i + u)) ⟨fun x y _ => rfl, fun u hu => absurd hu (Nat.not_lt_zero u)⟩ ?_ ?_
    · intro f k ⟨k1, k2⟩
      refine ⟨k, ?_, fun x y a b => by rw [k1 x y b, g1 x y a], k2⟩
      show fX9_copy_L157 (nI s) (nI i) (nI d) (nI j) (nI n) (f + 1) (nI n) k = _
      rw [fX9_copy_L157]; dsimp only
      rw [if_pos (nI_le (Nat.le_refl _) (by omega))]
    · intro f v k hv ⟨k1, k2⟩
      refine ⟨fd_ui k 96 (48 * d + j + v) (k.1 97 v), ⟨fun x y a => by rw [ui_g (by omega)]; exact k1 x y a, fun u hu => ?_⟩, ?_⟩
      · by_cases q : u = v
        · rw [q, ui_s, k1 _ _ (by omega), g2 v hv]
        · rw [ui_g (by omega)]; exact k2 u (by omega)
      · show fX9_copy_L157 (nI s) (nI i) (nI d) (nI j) (nI n) (f + 1) (nI v) k = fX9_copy_L157 (nI s) (nI i) (nI d) (nI j) (nI n) f (nI (v + 1)) _
        rw [fX9_copy_L157]; dsimp only
        rw [if_neg (nI_ge hv (by omega)), show (48 : Int32) = nI 48 from rfl, pk_mul, nI_add, nI_add, in_nI (by omega) (by omega), in_nI (by omega) (by omega), fd_g, if_pos rfl, fd_g, if_pos rfl, fd_lt, nI_clamp (by omega), nI_clamp (by omega), nI_1]
  · intro f v g hv ⟨g1, g2⟩
    refine ⟨fd_ui g 97 v (g.1 96 (48 * s + i + v)), ⟨fun x y a => by rw [ui_g (by omega)]; exact g1 x y a, fun u hu => ?_⟩, ?_⟩
    · by_cases q : u = v
      · rw [q, ui_s, g1 _ _ (by omega)]
      · rw [ui_g (by omega)]; exact g2 u (by omega)
    · show fX9_copy_L120 (nI s) (nI i) (nI d) (nI j) (nI n) (f + 1) (nI v) g = fX9_copy_L120 (nI s) (nI i) (nI d) (nI j) (nI n) f (nI (v + 1)) _
      rw [fX9_copy_L120]; dsimp only
      rw [if_neg (nI_ge hv (by omega)), show (48 : Int32) = nI 48 from rfl, pk_mul, nI_add, nI_add, in_nI (by omega) (by omega), in_nI (by omega) (by omega), fd_g, if_pos rfl, fd_g, if_pos rfl, fd_lt, nI_clamp (by omega), nI_clamp (by omega), nI_1]
theorem copy_RR {hx hm : fd_H} {s d i j n : Nat} (hR : RR hx hm) (hs : s < 4) (hd : d < 4) (hi : i + n ≤ 48) (hj : j + n ≤ 48) : ∃ h' m', fX4_take (61 + 3 * d) (61 + 3 * s) (nI i) (nI j) (nI n) hx = some h' ∧ fX9_copy_L120 (nI s) (nI i) (nI d) (nI j) (nI n) fd_fu 0 hm = some (1, m') ∧ RR h' m' := by
  obtain ⟨h', e1, e2, e3, e4⟩ := take_c (h := hx) hs hd hi hj
  obtain ⟨m', f1, f2, f3⟩ := take_m (m := hm) hs hd hi hj
  refine ⟨h', m', e1, f1, sheet_c hR (fun x y a b c => f2 x y (fun q => by subst q; exact Bool.noConfusion c) (by omega)) (fun x y a b => e3 x y (by omega)) e2 (by rw [e3 _ _ (by omega), f2 _ _ (by omega) (by omega)]; exact fnd hR) (fun t ht => ?_)⟩
  have at7 := (sh_of hR s hs).2.2.2.2.2.2
  by_cases q : t = d
  · subst q
    obtain ⟨a1, a2, a3, a4, a5, a6, a7⟩ := sh_of hR t ht
    refine ⟨?_, ?_, ?_, ?_, ?_, ?_, fun y hy => ?_⟩
    · rw [f2 _ _ (by omega) (by omega)]; exact a1
    · rw [f2 _ _ (by omega) (by omega)]; exact a2
    · rw [f2 _ _ (by omega) (by omega)]; exact a3
    · rw [e3 _ _ (by omega), f2 _ _ (by omega) (by omega)]; exact a4
    · rw [e3 _ _ (by omega), f2 _ _ (by omega) (by omega)]; exact a5
    · rw [e3 _ _ (by omega), f2 _ _ (by omega) (by omega)]; exact a6
    · rw [e4 y]
      by_cases q : j ≤ y ∧ y < j + n
      · have := f3 (y - j) (by omega)
        rw [if_pos q, at7 _ (by omega), show 48 * t + y = 48 * t + j + (y - j) by omega, this, show 48 * s + (i + (y - j)) = 48 * s + i + (y - j) by omega]
      · rw [if_neg q, f2 _ _ (by omega) (by omega)]; exact a7 y hy
  · exact sh_same (sh_of hR t ht) (fun y => e3 _ _ (by omega)) (fun y _ => e3 _ _ (by omega)) (f2 _ _ (by omega) (by omega)) (f2 _ _ (by omega) (by omega)) (f2 _ _ (by omega) (by omega)) (fun y _ => f2 _ _ (by omega) (by omega))
theorem nat_of {a : Int32} {z : Nat} (h : 0 ≤ a.toInt) (h2 : a.toInt ≤ z) (hz : z ≤ 48) : ∃ k, k ≤ z ∧ a = nI k := by
  refine ⟨a.toInt.toNat, by omega, ?_⟩
  apply Int32.toInt_inj.mp
  rw [nI_toInt (by omega)]
  omega
theorem q_copy : pp_copy RR := by
  intro hx hm a b c e n hR
  unfold fX8_copy fX9_copy fX8_copy_L51 fX9_copy_L35 fX8_copy_L99 fX9_copy_L111
  rw [show (4 : Int32) = nI 4 from rfl]
  rcases below_cases a (n := 4) (by omega) with ⟨s, hs, rfl⟩ | h
  · rw [below_y hs (by omega), isSheet_y hs, Option.bind_some, Option.bind_some, if_pos rfl, if_pos rfl]
    rcases below_cases c (n := 4) (by omega) with ⟨d, hd, rfl⟩ | h2
    · obtain ⟨a1, a2, ⟨z, a3, a3'⟩, a4, a5, a6, a7⟩ := sh_of hR s hs
      obtain ⟨b1, b2, ⟨y, b3, b3'⟩, b4, b5, b6, b7⟩ := sh_of hR d hd
      obtain ⟨r1, x1, w1, g1, g2, g3, -⟩ := find_c 1 hR
      obtain ⟨r2, x2, w2, k1, k2, k3, -⟩ := find_c 2 hR
      obtain ⟨r4, x4, w4, l1, l2, l3, -⟩ := find_c (nI 4) hR
      rw [below_y hd (by omega), isSheet_y hd, Option.bind_some, Option.bind_some, if_pos rfl, if_pos rfl, in_nI hs (by omega), in_nI hd (by omega)]
      simp only [fd_g, if_true, nI_clamp (show s < 2147483648 by omega), nI_clamp (show d < 2147483648 by omega)]
      rw [g1, g2, k1, k2, l1, l2, range_c b n (a6.trans a3') a3, range_c e n (b6.trans b3') b3, a5, b5, a3', b3']
      by_cases c1 : hm.1 93 s = 0
      · rw [if_neg (fun q => a4.mp q c1), if_pos c1]
        exact ⟨_, x1, w1, rfl, rfl, g3⟩
      · rw [if_pos (a4.mpr c1), if_neg c1]
        by_cases c2 : hm.1 93 d = 0
        · rw [if_neg (fun q => b4.mp q c2), if_pos c2]
          exact ⟨_, x1, w1, rfl, rfl, g3⟩
        · rw [if_pos (b4.mpr c2), if_neg c2]
          by_cases c3 : hm.1 94 s = hm.1 94 d
          · rw [if_pos c3, if_pos c3, Option.bind_some]
            have e0 : (0 : Int32).toInt = 0 := rfl
            have ez : (nI z).toInt = z := nI_toInt (by omega)
            have ey : (nI y).toInt = y := nI_toInt (by omega)
            have cl : ∀ q : Int32, q < 0 ↔ q.toInt < 0 := fun q => by rw [Int32.lt_iff_toInt_lt, e0]
            have cm1 : (0 < lg_cmp (b.toInt64 + n.toInt64) (nI z).toInt64) ↔ (z : Int) < b.toInt + n.toInt := by rw [lg_cmp_gt, Int64.lt_iff_toInt_lt, lg_i2l_add, Int32.toInt_toInt64, ez]
            have cm2 : (lg_cmp (e.toInt64 + n.toInt64) (nI y).toInt64 ≤ 0) ↔ e.toInt + n.toInt ≤ (y : Int) := by rw [lg_cmp_le, Int64.le_iff_toInt_le, lg_i2l_add, Int32.toInt_toInt64, ey]
            by_cases ok1 : 0 ≤ b.toInt ∧ 0 ≤ n.toInt ∧ b.toInt + n.toInt ≤ z
            · have nb : ¬ b < 0 := fun q => by have := (cl b).mp q; omega
              have nn : ¬ n < 0 := fun q => by have := (cl n).mp q; omega
              have ng : ¬ 0 < lg_cmp (b.toInt64 + n.toInt64) (nI z).toInt64 := fun q => by have := cm1.mp q; omega
              rw [decide_eq_true ok1, if_pos rfl, Option.bind_some, if_neg nb]
              by_cases ok2 : 0 ≤ e.toInt ∧ 0 ≤ n.toInt ∧ e.toInt + n.toInt ≤ y
              · obtain ⟨i, hi, rfl⟩ := nat_of (a := b) (z := z) ok1.1 (by omega) a3
                obtain ⟨j, hj, rfl⟩ := nat_of (a := e) (z := y) ok2.1 (by omega) b3
                obtain ⟨k, hk, rfl⟩ := nat_of (a := n) (z := z) ok1.2.1 (by omega) a3
                have ei : (nI i).toInt = i := nI_toInt (by omega)
                have ej : (nI j).toInt = j := nI_toInt (by omega)
                have ek : (nI k).toInt = k := nI_toInt (by omega)
                obtain ⟨h', m', p1, p2, p3⟩ := copy_RR hR hs hd (i := i) (j := j) (n := k) (by omega) (by omega)
                rw [decide_eq_true ok2, if_pos rfl, p1, Option.bind_some, if_neg (show ¬ nI j < 0 from nI_pos (by omega)), if_neg nn, if_neg ng, if_pos (cm2.mpr ok2.2.2), p2]
                exact ⟨_, h', m', rfl, rfl, p3⟩
              · rw [decide_eq_false ok2, if_neg (show ¬ false = true by decide)]
                by_cases z1 : e < 0
                · rw [if_pos z1]
                  exact ⟨_, x2, w2, rfl, rfl, k3⟩
                · have : 0 ≤ e.toInt := by have := nlt_to z1; omega
                  rw [if_neg z1, if_neg nn, if_neg ng, if_neg (show ¬ lg_cmp (e.toInt64 + n.toInt64) (nI y).toInt64 ≤ 0 from fun q => by have := cm2.mp q; omega)]
                  exact ⟨_, x2, w2, rfl, rfl, k3⟩
            · rw [decide_eq_false ok1, if_neg (show ¬ false = true by decide)]
              by_cases z0 : b < 0
              · rw [if_pos z0]
                exact ⟨_, x2, w2, rfl, rfl, k3⟩
              · have : 0 ≤ b.toInt := by have := nlt_to z0; omega
                rw [if_neg z0]
                by_cases z1 : e < 0
                · rw [if_pos z1]
                  exact ⟨_, x2, w2, rfl, rfl, k3⟩
                · rw [if_neg z1]
                  by_cases z2 : n < 0
                  · rw [if_pos z2]
                    exact ⟨_, x2, w2, rfl, rfl, k3⟩
                  · have : 0 ≤ n.toInt := by have := nlt_to z2; omega
                    rw [if_neg z2, if_pos (cm1.mpr (by omega))]
                    exact ⟨_, x2, w2, rfl, rfl, k3⟩
          · rw [if_neg c3, if_neg c3]
            exact ⟨_, x4, w4, rfl, rfl, l3⟩
    · rw [below_n h2, isSheet_n h2]
      exact ⟨_, hx, hm, rfl, rfl, hR⟩
  · rw [below_n h, isSheet_n h]
    exact ⟨_, hx, hm, rfl, rfl, hR⟩
