theorem fd_aconv {D : va_G} {z a t n : Nat} {cA : Nat → ClassId} {h h' : fd_H} {H : Heap} {rf rf' : Nat → Option Nat} (hj : ∀ j, j < n → rf j = rf' j) (q : va_at D vwCl (z + a, fd_cell z cA h a (.inl (t + 3, n, rf))) H) : va_at D vwCl (z + a, fd_cell z cA h' a (.inl (t + 3, n, rf'))) H := by
  have e1 : ∀ (h : fd_H) (rf : Nat → Option Nat), fd_cell z cA h a (.inl (t + 3, n, rf)) = .inl (cA (t + 3), n, .inr (.inr (.inr (.inr fun j => (rf j).map (fun q => z + q))))) := by
    intro h rf
    show Sum.inl (cA (t + 3), n, if t + 3 = 1 then _ else if t + 3 < 3 then _ else _) = _
    rw [if_neg (by omega), if_neg (by omega)]
  rw [e1] at q ⊢
  have q : H[z + a]? = some (arrV (cA (t + 3)) n (fun j => va_rf ((rf j).map (fun q => z + q)))) := q
  show H[z + a]? = some (arrV (cA (t + 3)) n (fun j => va_rf ((rf' j).map (fun q => z + q))))
  rw [q]
  congr 1
  unfold arrV
  congr 1
  apply Array.ext
  · simp
  · intro i h1 h2
    have hi : i < n := by simpa using h1
    simp [hj i hi]
set_option maxRecDepth 100000 in
set_option maxHeartbeats 8000000 in
theorem fd_conv9 : ∀ (a : Nat), a < 98 → ∀ (D : va_G) (z : Nat) (cA : Nat → ClassId) (H : Heap), va_at D vwCl (z + a, fd_cell z cA hs_29 a ((xs_195).2 a)) H → va_at D vwCl (z + a, fd_cell z cA (fd_mx hs_29 hs_29) a (fd_X0.2 a)) H := by
  refine lt_s ?_ (fun D z cA H q => q)
  refine lt_s ?_ (fun D z cA H q => q)
  refine lt_s ?_ (fun D z cA H q => q)
  refine lt_s ?_ (fun D z cA H q => q)
  refine lt_s ?_ (fun D z cA H q => q)
  refine lt_s ?_ (fun D z cA H q => q)
  refine lt_s ?_ (fun D z cA H q => q)
  refine lt_s ?_ (fun D z cA H q => q)
  refine lt_s ?_ (fun D z cA H q => q)
  refine lt_s ?_ (fun D z cA H q => q)
  refine lt_s ?_ (fun D z cA H q => q)
  refine lt_s ?_ (fun D z cA H q => q)
  refine lt_s ?_ (fun D z cA H q => q)
  refine lt_s ?_ (fun D z cA H q => q)
  refine lt_s ?_ (fun D z cA H q => q)
  refine lt_s ?_ (fun D z cA H q => q)
  refine lt_s ?_ (fun D z cA H q => q)
  refine lt_s ?_ (fun D z cA H q => q)
  refine lt_s ?_ (fun D z cA H q => q)
  refine lt_s ?_ (fun D z cA H q => q)
  refine lt_s ?_ (fun D z cA H q => q)
  refine lt_s ?_ (fun D z cA H q => q)
  refine lt_s ?_ (fun D z cA H q => q)
  refine lt_s ?_ (fun D z cA H q => q)
  refine lt_s ?_ (fun D z cA H q => q)
  refine lt_s ?_ (fun D z cA H q => q)
  refine lt_s ?_ (fun D z cA H q => q)
  refine lt_s ?_ (fun D z cA H q => q)
  refine lt_s ?_ (fun D z cA H q => q)
  refine lt_s ?_ (fun D z cA H q => q)
  refine lt_s ?_ (fun D z cA H q => q)
  refine lt_s ?_ (fun D z cA H q => q)
  refine lt_s ?_ (fun D z cA H q => q)
  refine lt_s ?_ (fun D z cA H q => q)
  refine lt_s ?_ (fun D z cA H q => q)
  refine lt_s ?_ (fun D z cA H q => q)
  refine lt_s ?_ (fun D z cA H q => q)
  refine lt_s ?_ (fun D z cA H q => fd_aconv (fun j hj => by rcases (show j = 0 ∨ j = 1 ∨ j = 2 ∨ j = 3 by omega) with rfl | rfl | rfl | rfl <;> rfl) q)
  refine lt_s ?_ (fun D z cA H q => q)
  refine lt_s ?_ (fun D z cA H q => q)
  refine lt_s ?_ (fun D z cA H q => q)
  refine lt_s ?_ (fun D z cA H q => q)
  refine lt_s ?_ (fun D z cA H q => q)
  refine lt_s ?_ (fun D z cA H q => q)
  refine lt_s ?_ (fun D z cA H q => q)
  refine lt_s ?_ (fun D z cA H q => q)
  refine lt_s ?_ (fun D z cA H q => q)
  refine lt_s ?_ (fun D z cA H q => q)
  refine lt_s ?_ (fun D z cA H q => q)
  refine lt_s ?_ (fun D z cA H q => q)
  refine lt_s ?_ (fun D z cA H q => q)
  refine lt_s ?_ (fun D z cA H q => q)
  refine lt_s ?_ (fun D z cA H q => q)
  refine lt_s ?_ (fun D z cA H q => q)
  refine lt_s ?_ (fun D z cA H q => q)
  refine lt_s ?_ (fun D z cA H q => q)
  refine lt_s ?_ (fun D z cA H q => q)
  refine lt_s ?_ (fun D z cA H q => q)
  refine lt_s ?_ (fun D z cA H q => q)
  refine lt_s ?_ (fun D z cA H q => q)
  refine lt_s ?_ (fun D z cA H q => q)
  refine lt_s ?_ (fun D z cA H q => q)
  refine lt_s ?_ (fun D z cA H q => q)
  refine lt_s ?_ (fun D z cA H q => q)
  refine lt_s ?_ (fun D z cA H q => q)
  refine lt_s ?_ (fun D z cA H q => q)
  refine lt_s ?_ (fun D z cA H q => q)
  refine lt_s ?_ (fun D z cA H q => q)
  refine lt_s ?_ (fun D z cA H q => q)
  refine lt_s ?_ (fun D z cA H q => q)
  refine lt_s ?_ (fun D z cA H q => q)
  refine lt_s ?_ (fun D z cA H q => q)
  refine lt_s ?_ (fun D z cA H q => q)
  refine lt_s ?_ (fun D z cA H q => q)
  refine lt_s ?_ (fun D z cA H q => q)
  refine lt_s ?_ (fun D z cA H q => q)
  refine lt_s ?_ (fun D z cA H q => q)
  refine lt_s ?_ (fun D z cA H q => q)
  refine lt_s ?_ (fun D z cA H q => q)
  refine lt_s ?_ (fun D z cA H q => q)
  refine lt_s ?_ (fun D z cA H q => q)
  refine lt_s ?_ (fun D z cA H q => q)
  refine lt_s ?_ (fun D z cA H q => q)
  refine lt_s ?_ (fun D z cA H q => q)
  refine lt_s ?_ (fun D z cA H q => q)
  refine lt_s ?_ (fun D z cA H q => q)
  refine lt_s ?_ (fun D z cA H q => q)
  refine lt_s ?_ (fun D z cA H q => q)
  refine lt_s ?_ (fun D z cA H q => q)
  refine lt_s ?_ (fun D z cA H q => q)
  refine lt_s ?_ (fun D z cA H q => q)
  refine lt_s ?_ (fun D z cA H q => q)
  refine lt_s ?_ (fun D z cA H q => q)
  refine lt_s ?_ (fun D z cA H q => q)
  refine lt_s ?_ (fun D z cA H q => q)
  refine lt_s ?_ (fun D z cA H q => q)
  refine lt_s ?_ (fun D z cA H q => fd_aconv (fun j hj => by rcases (show j = 0 ∨ j = 1 ∨ j = 2 by omega) with rfl | rfl | rfl <;> rfl) q)
  refine lt_s ?_ (fun D z cA H q => q)
  exact lt_0
theorem fd_conv0 : ∀ (D : va_G) (z : Nat) (cA : Nat → ClassId) (H : Heap) (a : Nat), a < (xs_195).1 → va_at D vwCl (z + a, fd_cell z cA hs_29 a ((xs_195).2 a)) H → va_at D vwCl (z + a, fd_cell z cA (fd_mx hs_29 hs_29) a (fd_X0.2 a)) H := fun D z cA H a ha => fd_conv9 a ha D z cA H
set_option maxRecDepth 100000 in
set_option maxHeartbeats 8000000 in
theorem law_start {g : fd_G} {nm : String} {b L : Nat} {xs : Nat → Int32} (hL : L ≤ 384) {Rel : fd_H → fd_H → Prop} (hR0 : Rel hs_29 hs_29) (p_type : pp_type Rel) (p_wipe : pp_wipe Rel) (p_undo : pp_undo Rel) (p_fault : pp_fault Rel) (p_place : pp_place Rel) (p_warm : pp_warm Rel) (p_debt : pp_debt Rel) (p_zero : pp_zero Rel) (p_cloud : pp_cloud Rel) (p_smoke : pp_smoke Rel) (p_ice : pp_ice Rel) (p_back : pp_back Rel) (p_warmth : pp_warmth Rel) (p_freezes : pp_freezes Rel) (p_first : pp_first Rel) (p_had : pp_had Rel) (p_stands : pp_stands Rel) (p_lasts : pp_lasts Rel) (p_never : pp_never Rel) (p_owes : pp_owes Rel) (p_hangs : pp_hangs Rel) (p_free : pp_free Rel) (p_where : pp_where Rel) (p_keep : pp_keep Rel) (p_carry : pp_carry Rel) (p_seen : pp_seen Rel) (p_forget : pp_forget Rel) (p_read : pp_read Rel) (p_was : pp_was Rel) (p_carried : pp_carried Rel) (p_ask : pp_ask Rel) (p_chance : pp_chance Rel) (p_year : pp_year Rel) (p_sheet : pp_sheet Rel) (p_lose : pp_lose Rel) (p_put : pp_put Rel) (p_get : pp_get Rel) (p_copy : pp_copy Rel) (p_write : pp_write Rel) (p_count : pp_count Rel) (p_digest : pp_digest Rel) : fd_A g (mL_law nm) (fd_EL g b L xs) room_1 fd_QL 0 [(0, .ref b)] [] xs_0 hs_0 0 0 := by
  refine fr_new (pc := 0) (ty := tyX8) dL_law_0 rfl inX8 tyX8_ok kw_1012 kw_1013 kw_74 rfl rfl df_X8 ⟨Nat.le_of_ble_eq_true rfl, Nat.le_of_ble_eq_true rfl⟩ (show xs_1 = _ from rfl) ?_
  refine fr_dup (pc := 3) dL_law_3 rfl ?_
  refine fr_callC (pc := 4) (k := 0) (av := []) (mc := 72) (ms := 656) dL_law_4 yy_X8_init (Or.inl kw_1016) rfl rfl (Nat.le_of_ble_eq_true rfl) ⟨Nat.le_of_ble_eq_true rfl, Nat.le_of_ble_eq_true rfl, Nat.le_of_ble_eq_true rfl, Nat.le_of_ble_eq_true rfl⟩ iX8_init_0 ?_
  refine fr_astore_n (pc := 7) (lv' := [(1, .ref (g.2.2.2 + 0)), (0, .ref b)]) dL_law_7 rfl (Nat.le_of_ble_eq_true rfl) rfl ?_
  refine fr_new (pc := 8) (ty := tyX9) dL_law_8 rfl inX9 tyX9_ok kw_1017 kw_1018 kw_146 rfl rfl df_X9 ⟨Nat.le_of_ble_eq_true rfl, Nat.le_of_ble_eq_true rfl⟩ (show xs_147 = _ from rfl) ?_
  refine fr_dup (pc := 11) dL_law_11 rfl ?_
  refine fr_callC (pc := 12) (k := 73) (av := []) (mc := 24) (ms := 703) dL_law_12 yy_X9_init (Or.inl kw_1021) rfl rfl (Nat.le_of_ble_eq_true rfl) ⟨Nat.le_of_ble_eq_true rfl, Nat.le_of_ble_eq_true rfl, Nat.le_of_ble_eq_true rfl, Nat.le_of_ble_eq_true rfl⟩ iX9_init_73 ?_
  refine fr_astore_n (pc := 15) (lv' := [(2, .ref (g.2.2.2 + 73)), (1, .ref (g.2.2.2 + 0)), (0, .ref b)]) dL_law_15 rfl (Nat.le_of_ble_eq_true rfl) rfl ?_
  refine fr_iconst (pc := 16) (v := (0 : Int32)) dL_law_16 (by decide) ?_
  refine fr_istore_n (pc := 17) (lv' := [(3, .int (0 : Int32)), (2, .ref (g.2.2.2 + 73)), (1, .ref (g.2.2.2 + 0)), (0, .ref b)]) dL_law_17 rfl (Nat.le_of_ble_eq_true rfl) rfl ?_
  refine fr_loc (lv' := [(0, .ref b), (1, .ref (g.2.2.2 + 0)), (2, .ref (g.2.2.2 + 73)), (3, .int (0 : Int32))]) [3, 2, 1, 0] rfl ?_
  refine fr_conv (X := xs_195) (h := hs_29) (X' := fd_X0) (h' := fd_mx hs_29 hs_29) (show (xs_195).1 = fd_X0.1 from rfl) fd_conv0 ?_
  exact law_loop hL p_type p_wipe p_undo p_fault p_place p_warm p_debt p_zero p_cloud p_smoke p_ice p_back p_warmth p_freezes p_first p_had p_stands p_lasts p_never p_owes p_hangs p_free p_where p_keep p_carry p_seen p_forget p_read p_was p_carried p_ask p_chance p_year p_sheet p_lose p_put p_get p_copy p_write p_count p_digest (L + 1) 0 0 _ _ (Nat.zero_le L) (by omega) nI_0.symm hR0
