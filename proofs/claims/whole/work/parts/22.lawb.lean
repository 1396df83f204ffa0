set_option maxRecDepth 100000 in
set_option maxHeartbeats 8000000 in
theorem law_loop {g : fd_G} {nm : String} {b L : Nat} {xs : Nat → Int32} (hL : L ≤ 384) {Rel : fd_H → fd_H → Prop} (p_type : pp_type Rel) (p_wipe : pp_wipe Rel) (p_undo : pp_undo Rel) (p_fault : pp_fault Rel) (p_place : pp_place Rel) (p_warm : pp_warm Rel) (p_debt : pp_debt Rel) (p_zero : pp_zero Rel) (p_cloud : pp_cloud Rel) (p_smoke : pp_smoke Rel) (p_ice : pp_ice Rel) (p_back : pp_back Rel) (p_warmth : pp_warmth Rel) (p_freezes : pp_freezes Rel) (p_first : pp_first Rel) (p_had : pp_had Rel) (p_stands : pp_stands Rel) (p_lasts : pp_lasts Rel) (p_never : pp_never Rel) (p_owes : pp_owes Rel) (p_hangs : pp_hangs Rel) (p_free : pp_free Rel) (p_where : pp_where Rel) (p_keep : pp_keep Rel) (p_carry : pp_carry Rel) (p_seen : pp_seen Rel) (p_forget : pp_forget Rel) (p_read : pp_read Rel) (p_was : pp_was Rel) (p_carried : pp_carried Rel) (p_ask : pp_ask Rel) (p_chance : pp_chance Rel) (p_year : pp_year Rel) (p_sheet : pp_sheet Rel) (p_lose : pp_lose Rel) (p_put : pp_put Rel) (p_get : pp_get Rel) (p_copy : pp_copy Rel) (p_write : pp_write Rel) (p_count : pp_count Rel) (p_digest : pp_digest Rel) : ∀ (n i : Nat) (v3 : Int32) (hx hm : fd_H), i ≤ L → L - i < n → v3 = nI i → Rel hx hm → fd_A g (mL_law nm) (fd_EL g b L xs) room_1 fd_QL 18 [(0, .ref b), (1, .ref (g.2.2.2 + 0)), (2, .ref (g.2.2.2 + 73)), (3, .int v3)] [] fd_X0 (fd_mx hx hm) 98 1398 := by
  intro n
  induction n with
  | zero => intro i v3 hx hm hi hn; omega
  | succ n ih =>
    intro i v3 hx hm hi hn ev hrel
    refine fr_iload_n (pc := 18) dL_law_18 3 rfl rfl ?_
    refine fr_aload_n (pc := 19) dL_law_19 0 rfl rfl ?_
    refine fr_slen (pc := 20) dL_law_20 ?_
    refine fr_bipush (pc := 21) (v := (6 : Int32)) dL_law_21 (by decide) ?_
    refine fr_isub (pc := 23) dL_law_23 ?_
    refine fr_icmp_gt (pc := 24) 1483 dL_law_24 (by decide) (fun c1 => ?_) (fun c1 => ?_)
    · refine fr_iconst (pc := 1483) (v := (1 : Int32)) dL_law_1483 (by decide) ?_
      exact fr_lawret (pc := 1484) dL_law_1484 (by decide) (by decide)
    · have hb : i + 6 ≤ L := by
        rcases Nat.lt_or_ge L (i + 6) with q | q
        · exfalso
          apply c1
          rw [ev]
          show Int32.ofNat L - 6 < nI i
          rw [Int32.lt_iff_toInt_lt, nI_toInt (by omega)]
          have e6 : (Int32.ofNat L - 6 : Int32).toInt = (L : Int) - 6 := pk_sub_toInt (a := L) (b := 6) (by omega) (by omega)
          rw [e6]; omega
        · exact q
      have hin : ∀ k : Nat, k < 6 → fd_in (nI i + nI k) L = true := by
        intro k hk
        rw [nI_add]
        unfold fd_in
        rw [nI_clamp (by omega)]
        simp only [Bool.and_eq_true, decide_eq_true_eq]
        exact ⟨nI_pos (by omega), by omega⟩
      have h0 : fd_in v3 L = true := by
        have := hin 0 (by omega)
        rw [nI_add] at this
        rw [ev]; exact this
      have h1 : fd_in (v3 + (1 : Int32)) L = true := by rw [ev]; exact hin 1 (by omega)
      have h2 : fd_in (v3 + (2 : Int32)) L = true := by rw [ev]; exact hin 2 (by omega)
      have h3 : fd_in (v3 + (3 : Int32)) L = true := by rw [ev]; exact hin 3 (by omega)
      have h4 : fd_in (v3 + (4 : Int32)) L = true := by rw [ev]; exact hin 4 (by omega)
      have h5 : fd_in (v3 + (5 : Int32)) L = true := by rw [ev]; exact hin 5 (by omega)
      have go : ∀ hx' hm', Rel hx' hm' → fd_A g (mL_law nm) (fd_EL g b L xs) room_1 fd_QL 1477 [(0, .ref b), (1, .ref (g.2.2.2 + 0)), (2, .ref (g.2.2.2 + 73)), (3, .int v3)] [] fd_X0 (fd_mx hx' hm') 98 1398 := by
        intro hx' hm' hr'
        refine fr_iinc (pc := 1477) (v := (v3 + (6 : Int32))) (lv' := [(3, .int (v3 + (6 : Int32))), (0, .ref b), (1, .ref (g.2.2.2 + 0)), (2, .ref (g.2.2.2 + 73))]) dL_law_1477 3 rfl rfl (Nat.le_of_ble_eq_true rfl) rfl ?_
        refine fr_goto (pc := 1480) 18 dL_law_1480 (by decide) ?_
        refine fr_loc (lv' := [(0, .ref b), (1, .ref (g.2.2.2 + 0)), (2, .ref (g.2.2.2 + 73)), (3, .int (v3 + (6 : Int32)))]) [1, 2, 3, 0] rfl ?_
        exact ih (i + 6) _ hx' hm' hb (by omega) (by rw [ev]; exact nI_add i 6) hr'
      refine fr_aload_n (pc := 27) dL_law_27 0 rfl rfl ?_
      refine fr_iload_n (pc := 28) dL_law_28 3 rfl rfl ?_
      refine fr_sld (pc := 29) dL_law_29 h0 ?_
      refine fr_bipush (pc := 30) (v := (63 : Int32)) dL_law_30 (by decide) ?_
      refine fr_iand (pc := 32) dL_law_32 ?_
      obtain ⟨j, hj, ej⟩ := pk_andE (xs v3.toNatClampNeg) (m := 63) 6 (by decide)
      rw [ej]
      rcases (show j = 0 ∨ j = 1 ∨ j = 2 ∨ j = 3 ∨ j = 4 ∨ j = 5 ∨ j = 6 ∨ j = 7 ∨ j = 8 ∨ j = 9 ∨ j = 10 ∨ j = 11 ∨ j = 12 ∨ j = 13 ∨ j = 14 ∨ j = 15 ∨ j = 16 ∨ j = 17 ∨ j = 18 ∨ j = 19 ∨ j = 20 ∨ j = 21 ∨ j = 22 ∨ j = 23 ∨ j = 24 ∨ j = 25 ∨ j = 26 ∨ j = 27 ∨ j = 28 ∨ j = 29 ∨ j = 30 ∨ j = 31 ∨ j = 32 ∨ j = 33 ∨ j = 34 ∨ j = 35 ∨ j = 36 ∨ j = 37 ∨ j = 38 ∨ j = 39 ∨ j = 40 ∨ 41 ≤ j by omega) with rfl | rfl | rfl | rfl | rfl | rfl | rfl | rfl | rfl | rfl | rfl | rfl | rfl | rfl | rfl | rfl | rfl | rfl | rfl | rfl | rfl | rfl | rfl | rfl | rfl | rfl | rfl | rfl | rfl | rfl | rfl | rfl | rfl | rfl | rfl | rfl | rfl | rfl | rfl | rfl | rfl | hj2
      · refine fr_tabIn (pc := 33) 212 dL_law_33 (by decide) (by decide) rfl (by decide) ?_
        obtain ⟨r, hx', hm', e1, e2, hr⟩ := p_type hx hm (xs (v3 + (1 : Int32)).toNatClampNeg) (xs (v3 + (2 : Int32)).toNatClampNeg) hrel
        exact lc_0 h1 h2 e1 e2 (go _ _ hr)
      · refine fr_tabIn (pc := 33) 245 dL_law_33 (by decide) (by decide) rfl (by decide) ?_
        obtain ⟨r, hx', hm', e1, e2, hr⟩ := p_wipe hx hm (xs (v3 + (1 : Int32)).toNatClampNeg) hrel
        exact lc_1 h1 e1 e2 (go _ _ hr)
      · refine fr_tabIn (pc := 33) 268 dL_law_33 (by decide) (by decide) rfl (by decide) ?_
        obtain ⟨r, hx', hm', e1, e2, hr⟩ := p_undo hx hm (xs (v3 + (1 : Int32)).toNatClampNeg) hrel
        exact lc_2 h1 e1 e2 (go _ _ hr)
      · refine fr_tabIn (pc := 33) 291 dL_law_33 (by decide) (by decide) rfl (by decide) ?_
        obtain ⟨r, hm', e1, e2, hr⟩ := p_fault hx hm (xs (v3 + (1 : Int32)).toNatClampNeg) hrel
        exact lc_3 h1 e1 e2 (go _ _ hr)
      · refine fr_tabIn (pc := 33) 314 dL_law_33 (by decide) (by decide) rfl (by decide) ?_
        obtain ⟨r, hm', e1, e2, hr⟩ := p_place hx hm (xs (v3 + (1 : Int32)).toNatClampNeg) (xs (v3 + (2 : Int32)).toNatClampNeg) hrel
        exact lc_4 h1 h2 e1 e2 (go _ _ hr)
      · refine fr_tabIn (pc := 33) 347 dL_law_33 (by decide) (by decide) rfl (by decide) ?_
        obtain ⟨r, hm', e1, e2, hr⟩ := p_warm hx hm (xs (v3 + (1 : Int32)).toNatClampNeg) hrel
        exact lc_5 h1 e1 e2 (go _ _ hr)
      · refine fr_tabIn (pc := 33) 370 dL_law_33 (by decide) (by decide) rfl (by decide) ?_
        obtain ⟨r, hm', e1, e2, hr⟩ := p_debt hx hm (xs (v3 + (1 : Int32)).toNatClampNeg) (xs (v3 + (2 : Int32)).toNatClampNeg) hrel
        exact lc_6 h1 h2 e1 e2 (go _ _ hr)
      · refine fr_tabIn (pc := 33) 403 dL_law_33 (by decide) (by decide) rfl (by decide) ?_
        obtain ⟨r, hx', hm', e1, e2, hr⟩ := p_zero hx hm (xs (v3 + (1 : Int32)).toNatClampNeg) hrel
        exact lc_7 h1 e1 e2 (go _ _ hr)
      · refine fr_tabIn (pc := 33) 426 dL_law_33 (by decide) (by decide) rfl (by decide) ?_
        obtain ⟨r, hx', hm', e1, e2, hr⟩ := p_cloud hx hm (xs (v3 + (1 : Int32)).toNatClampNeg) hrel
        exact lc_8 h1 e1 e2 (go _ _ hr)
      · refine fr_tabIn (pc := 33) 449 dL_law_33 (by decide) (by decide) rfl (by decide) ?_
        obtain ⟨r, hx', hm', e1, e2, hr⟩ := p_smoke hx hm (xs (v3 + (1 : Int32)).toNatClampNeg) (xs (v3 + (2 : Int32)).toNatClampNeg) hrel
        exact lc_9 h1 h2 e1 e2 (go _ _ hr)
      · refine fr_tabIn (pc := 33) 482 dL_law_33 (by decide) (by decide) rfl (by decide) ?_
        obtain ⟨r, hx', hm', e1, e2, hr⟩ := p_ice hx hm (xs (v3 + (1 : Int32)).toNatClampNeg) (xs (v3 + (2 : Int32)).toNatClampNeg) hrel
        exact lc_10 h1 h2 e1 e2 (go _ _ hr)
      · refine fr_tabIn (pc := 33) 515 dL_law_33 (by decide) (by decide) rfl (by decide) ?_
        obtain ⟨r, hx', hm', e1, e2, hr⟩ := p_back hx hm (xs (v3 + (1 : Int32)).toNatClampNeg) hrel
        exact lc_11 h1 e1 e2 (go _ _ hr)
      · refine fr_tabIn (pc := 33) 538 dL_law_33 (by decide) (by decide) rfl (by decide) ?_
        obtain ⟨r, hm', e1, e2, hr⟩ := p_warmth hx hm (xs (v3 + (1 : Int32)).toNatClampNeg) (xs (v3 + (2 : Int32)).toNatClampNeg) hrel
        exact lc_12 h1 h2 e1 e2 (go _ _ hr)
      · refine fr_tabIn (pc := 33) 571 dL_law_33 (by decide) (by decide) rfl (by decide) ?_
        obtain ⟨r, hm', e1, e2, hr⟩ := p_freezes hx hm (xs (v3 + (1 : Int32)).toNatClampNeg) (xs (v3 + (2 : Int32)).toNatClampNeg) hrel
        exact lc_13 h1 h2 e1 e2 (go _ _ hr)
      · refine fr_tabIn (pc := 33) 604 dL_law_33 (by decide) (by decide) rfl (by decide) ?_
        obtain ⟨r, hm', e1, e2, hr⟩ := p_first hx hm (xs (v3 + (1 : Int32)).toNatClampNeg) hrel
        exact lc_14 h1 e1 e2 (go _ _ hr)
      · refine fr_tabIn (pc := 33) 627 dL_law_33 (by decide) (by decide) rfl (by decide) ?_
        obtain ⟨r, hm', e1, e2, hr⟩ := p_had hx hm (xs (v3 + (1 : Int32)).toNatClampNeg) hrel
        exact lc_15 h1 e1 e2 (go _ _ hr)
      · refine fr_tabIn (pc := 33) 650 dL_law_33 (by decide) (by decide) rfl (by decide) ?_
        obtain ⟨r, hm', e1, e2, hr⟩ := p_stands hx hm (xs (v3 + (1 : Int32)).toNatClampNeg) (xs (v3 + (2 : Int32)).toNatClampNeg) hrel
        exact lc_16 h1 h2 e1 e2 (go _ _ hr)
      · refine fr_tabIn (pc := 33) 683 dL_law_33 (by decide) (by decide) rfl (by decide) ?_
        obtain ⟨r, hm', e1, e2, hr⟩ := p_lasts hx hm (xs (v3 + (1 : Int32)).toNatClampNeg) (xs (v3 + (2 : Int32)).toNatClampNeg) hrel
        exact lc_17 h1 h2 e1 e2 (go _ _ hr)
      · refine fr_tabIn (pc := 33) 716 dL_law_33 (by decide) (by decide) rfl (by decide) ?_
        obtain ⟨r, hm', e1, e2, hr⟩ := p_never hx hm  hrel
        exact lc_18  e1 e2 (go _ _ hr)
      · refine fr_tabIn (pc := 33) 729 dL_law_33 (by decide) (by decide) rfl (by decide) ?_
        obtain ⟨r, hm', e1, e2, hr⟩ := p_owes hx hm (xs (v3 + (1 : Int32)).toNatClampNeg) (xs (v3 + (2 : Int32)).toNatClampNeg) (xs (v3 + (3 : Int32)).toNatClampNeg) hrel
        exact lc_19 h1 h2 h3 e1 e2 (go _ _ hr)
      · refine fr_tabIn (pc := 33) 772 dL_law_33 (by decide) (by decide) rfl (by decide) ?_
        obtain ⟨r, hm', e1, e2, hr⟩ := p_hangs hx hm (xs (v3 + (1 : Int32)).toNatClampNeg) hrel
        exact lc_20 h1 e1 e2 (go _ _ hr)
      · refine fr_tabIn (pc := 33) 795 dL_law_33 (by decide) (by decide) rfl (by decide) ?_
        obtain ⟨r, hm', e1, e2, hr⟩ := p_free hx hm (xs (v3 + (1 : Int32)).toNatClampNeg) (xs (v3 + (2 : Int32)).toNatClampNeg) hrel
        exact lc_21 h1 h2 e1 e2 (go _ _ hr)
      · refine fr_tabIn (pc := 33) 828 dL_law_33 (by decide) (by decide) rfl (by decide) ?_
        obtain ⟨r, hm', e1, e2, hr⟩ := p_where hx hm (xs (v3 + (1 : Int32)).toNatClampNeg) (xs (v3 + (2 : Int32)).toNatClampNeg) (xs (v3 + (3 : Int32)).toNatClampNeg) hrel
        exact lc_22 h1 h2 h3 e1 e2 (go _ _ hr)
      · refine fr_tabIn (pc := 33) 871 dL_law_33 (by decide) (by decide) rfl (by decide) ?_
        obtain ⟨r, hm', e1, e2, hr⟩ := p_keep hx hm (xs (v3 + (1 : Int32)).toNatClampNeg) (xs (v3 + (2 : Int32)).toNatClampNeg) (xs (v3 + (3 : Int32)).toNatClampNeg) hrel
        exact lc_23 h1 h2 h3 e1 e2 (go _ _ hr)
      · refine fr_tabIn (pc := 33) 914 dL_law_33 (by decide) (by decide) rfl (by decide) ?_
        obtain ⟨r, hm', e1, e2, hr⟩ := p_carry hx hm (xs (v3 + (1 : Int32)).toNatClampNeg) (xs (v3 + (2 : Int32)).toNatClampNeg) (xs (v3 + (3 : Int32)).toNatClampNeg) hrel
        exact lc_24 h1 h2 h3 e1 e2 (go _ _ hr)
      · refine fr_tabIn (pc := 33) 957 dL_law_33 (by decide) (by decide) rfl (by decide) ?_
        obtain ⟨r, hx', hm', e1, e2, hr⟩ := p_seen hx hm (xs (v3 + (1 : Int32)).toNatClampNeg) (xs (v3 + (2 : Int32)).toNatClampNeg) (xs (v3 + (3 : Int32)).toNatClampNeg) hrel
        exact lc_25 h1 h2 h3 e1 e2 (go _ _ hr)
      · refine fr_tabIn (pc := 33) 1000 dL_law_33 (by decide) (by decide) rfl (by decide) ?_
        obtain ⟨r, hx', hm', e1, e2, hr⟩ := p_forget hx hm  hrel
        exact lc_26  e1 e2 (go _ _ hr)
      · refine fr_tabIn (pc := 33) 1013 dL_law_33 (by decide) (by decide) rfl (by decide) ?_
        obtain ⟨r, hx', hm', e1, e2, hr⟩ := p_read hx hm (xs (v3 + (1 : Int32)).toNatClampNeg) hrel
        exact lc_27 h1 e1 e2 (go _ _ hr)
      · refine fr_tabIn (pc := 33) 1036 dL_law_33 (by decide) (by decide) rfl (by decide) ?_
        obtain ⟨r, hx', hm', e1, e2, hr⟩ := p_was hx hm (xs (v3 + (1 : Int32)).toNatClampNeg) hrel
        exact lc_28 h1 e1 e2 (go _ _ hr)
      · refine fr_tabIn (pc := 33) 1059 dL_law_33 (by decide) (by decide) rfl (by decide) ?_
        obtain ⟨r, hx', hm', e1, e2, hr⟩ := p_carried hx hm  hrel
        exact lc_29  e1 e2 (go _ _ hr)
      · refine fr_tabIn (pc := 33) 1072 dL_law_33 (by decide) (by decide) rfl (by decide) ?_
        obtain ⟨r, hx', hm', e1, e2, hr⟩ := p_ask hx hm (xs (v3 + (1 : Int32)).toNatClampNeg) hrel
        exact lc_30 h1 e1 e2 (go _ _ hr)
      · refine fr_tabIn (pc := 33) 1095 dL_law_33 (by decide) (by decide) rfl (by decide) ?_
        obtain ⟨r, hm', e1, e2, hr⟩ := p_chance hx hm (xs (v3 + (1 : Int32)).toNatClampNeg) (xs (v3 + (2 : Int32)).toNatClampNeg) (xs (v3 + (3 : Int32)).toNatClampNeg) (xs (v3 + (4 : Int32)).toNatClampNeg) hrel
        exact lc_31 h1 h2 h3 h4 e1 e2 (go _ _ hr)
      · refine fr_tabIn (pc := 33) 1149 dL_law_33 (by decide) (by decide) rfl (by decide) ?_
        obtain ⟨r, hx', hm', e1, e2, hr⟩ := p_year hx hm (xs (v3 + (1 : Int32)).toNatClampNeg) (xs (v3 + (2 : Int32)).toNatClampNeg) hrel
        exact lc_32 h1 h2 e1 e2 (go _ _ hr)
      · refine fr_tabIn (pc := 33) 1182 dL_law_33 (by decide) (by decide) rfl (by decide) ?_
        obtain ⟨r, hx', hm', e1, e2, hr⟩ := p_sheet hx hm (xs (v3 + (1 : Int32)).toNatClampNeg) (xs (v3 + (2 : Int32)).toNatClampNeg) (xs (v3 + (3 : Int32)).toNatClampNeg) hrel
        exact lc_33 h1 h2 h3 e1 e2 (go _ _ hr)
      · refine fr_tabIn (pc := 33) 1225 dL_law_33 (by decide) (by decide) rfl (by decide) ?_
        obtain ⟨r, hx', hm', e1, e2, hr⟩ := p_lose hx hm (xs (v3 + (1 : Int32)).toNatClampNeg) hrel
        exact lc_34 h1 e1 e2 (go _ _ hr)
      · refine fr_tabIn (pc := 33) 1248 dL_law_33 (by decide) (by decide) rfl (by decide) ?_
        obtain ⟨r, hx', hm', e1, e2, hr⟩ := p_put hx hm (xs (v3 + (1 : Int32)).toNatClampNeg) (xs (v3 + (2 : Int32)).toNatClampNeg) (xs (v3 + (3 : Int32)).toNatClampNeg) (xs (v3 + (4 : Int32)).toNatClampNeg) hrel
        exact lc_35 h1 h2 h3 h4 e1 e2 (go _ _ hr)
      · refine fr_tabIn (pc := 33) 1301 dL_law_33 (by decide) (by decide) rfl (by decide) ?_
        obtain ⟨r, hx', hm', e1, e2, hr⟩ := p_get hx hm (xs (v3 + (1 : Int32)).toNatClampNeg) (xs (v3 + (2 : Int32)).toNatClampNeg) (xs (v3 + (3 : Int32)).toNatClampNeg) hrel
        exact lc_36 h1 h2 h3 e1 e2 (go _ _ hr)
      · refine fr_tabIn (pc := 33) 1344 dL_law_33 (by decide) (by decide) rfl (by decide) ?_
        obtain ⟨r, hx', hm', e1, e2, hr⟩ := p_copy hx hm (xs (v3 + (1 : Int32)).toNatClampNeg) (xs (v3 + (2 : Int32)).toNatClampNeg) (xs (v3 + (3 : Int32)).toNatClampNeg) (xs (v3 + (4 : Int32)).toNatClampNeg) (xs (v3 + (5 : Int32)).toNatClampNeg) hrel
        exact lc_37 h1 h2 h3 h4 h5 e1 e2 (go _ _ hr)
      · refine fr_tabIn (pc := 33) 1407 dL_law_33 (by decide) (by decide) rfl (by decide) ?_
        obtain ⟨r, hx', hm', e1, e2, hr⟩ := p_write hx hm (xs (v3 + (1 : Int32)).toNatClampNeg) (xs (v3 + (2 : Int32)).toNatClampNeg) hrel
        exact lc_38 h1 h2 e1 e2 (go _ _ hr)
      · refine fr_tabIn (pc := 33) 1440 dL_law_33 (by decide) (by decide) rfl (by decide) ?_
        obtain ⟨r, hm', e1, e2, hr⟩ := p_count hx hm (xs (v3 + (1 : Int32)).toNatClampNeg) hrel
        exact lc_39 h1 e1 e2 (go _ _ hr)
      · refine fr_tabIn (pc := 33) 1463 dL_law_33 (by decide) (by decide) rfl (by decide) ?_
        obtain ⟨r, hx', hm', e1, e2, hr⟩ := p_digest hx hm  hrel
        exact lc_40  e1 e2 (go _ _ hr)
      · refine fr_tabOut (pc := 33) 1477 dL_law_33 (Or.inr (by rw [nI_toInt (by omega)]; omega)) (by decide) ?_
        exact go _ _ hrel
