theorem fd_sub : ∀ w ∈ fd_gt, w ∈ lw_tbl := fun w h => (List.mem_filter.mp h).1
theorem fd_nestIn : ∀ q ∈ fd_nest, Cond.methodLinkNest q.1 q.2.1 q.2.2.1 q.2.2.2 ∈ lw_tbl := by
  have h : fd_nest.all (fun q => decide (Cond.methodLinkNest q.1 q.2.1 q.2.2.1 q.2.2.2 ∈ lw_tbl)) = true := by decide +kernel
  intro q hq
  exact of_decide_eq_true (List.all_eq_true.mp h q hq)
theorem fd_aoT : Cond.arrayOver (.object "FrostDebts$Text") ∈ lw_tbl := by decide +kernel
theorem fd_aoS : Cond.arrayOver (.object "FrostDebts$Sheet") ∈ lw_tbl := by decide +kernel
theorem fd_arrP {s : State} {args : Array Value} {ty : FieldType} (h : (Cond.arrayClass ty).before args s = true) (hRA : ∀ c, s.vm.findClass ("[" ++ ty.toString) = some c → va_RA s c ty) : ∃ c, ArrOfT s c ty ∧ va_RA s c ty := by
  obtain ⟨c, k, comp, h1, h2, h3⟩ := Cond.arrayClass_spec h
  exact ⟨c, fun n z => ⟨fun k h => (by cases h), k, h2, comp, h3⟩, hRA c h1⟩
theorem fd_arrO {s : State} {args : Array Value} {C : String} (h : (Cond.arrayOver (.object C)).before args s = true) : ∃ c, ArrOfT s c (.object C) ∧ va_RA s c (.object C) := by
  obtain ⟨comp, c, k, h1, h2, h3, h4, h5⟩ := Cond.arrayOver_spec h
  exact ⟨c, fun n z => ⟨fun k h => (by cases h), k, h3, comp, h4⟩, k, comp, h3, h4, h1, h5⟩
set_option maxHeartbeats 4000000 in
set_option maxRecDepth 100000 in
theorem whole_open {Rel : fd_H → fd_H → Prop} (hR0 : Rel hs_29 hs_29) (p_type : pp_type Rel) (p_wipe : pp_wipe Rel) (p_undo : pp_undo Rel) (p_fault : pp_fault Rel) (p_place : pp_place Rel) (p_warm : pp_warm Rel) (p_debt : pp_debt Rel) (p_zero : pp_zero Rel) (p_cloud : pp_cloud Rel) (p_smoke : pp_smoke Rel) (p_ice : pp_ice Rel) (p_back : pp_back Rel) (p_warmth : pp_warmth Rel) (p_freezes : pp_freezes Rel) (p_first : pp_first Rel) (p_had : pp_had Rel) (p_stands : pp_stands Rel) (p_lasts : pp_lasts Rel) (p_never : pp_never Rel) (p_owes : pp_owes Rel) (p_hangs : pp_hangs Rel) (p_free : pp_free Rel) (p_where : pp_where Rel) (p_keep : pp_keep Rel) (p_carry : pp_carry Rel) (p_seen : pp_seen Rel) (p_forget : pp_forget Rel) (p_read : pp_read Rel) (p_was : pp_was Rel) (p_carried : pp_carried Rel) (p_ask : pp_ask Rel) (p_chance : pp_chance Rel) (p_year : pp_year Rel) (p_sheet : pp_sheet Rel) (p_lose : pp_lose Rel) (p_put : pp_put Rel) (p_get : pp_get Rel) (p_copy : pp_copy Rel) (p_write : pp_write Rel) (p_count : pp_count Rel) (p_digest : pp_digest Rel) {p : Program} {e : Env} {s : State} {m : MethodId} {below : List Frame} {meth : Method} {c : Code} (l : Launch) {b L : Nat} {xs : Nat → Int32} (hL : L ≤ 384) (C0 : lw_At p s m meth c b L xs) : W p l e room_1 s m #[Value.ref b] below meth c s.heap [] 0 0 (lw_Z below #[Value.ref b] s) (entryFrame m ([Value.ref b] : List Value).toArray 4) := by
  obtain ⟨hx, hb, hr, hml, hown, hts, hX, hbl, hlocks, hgv⟩ := C0
  obtain ⟨c0, iS0, hKn0⟩ := u_known (C := RX0) (T := TX0) (N := 2) (n := 2) hts (fun w hw => fd_sub w (inX0 w hw)) (hts (.instantiable RX0 2) (by decide +kernel))
  obtain ⟨c1, iS1, hKn1⟩ := u_known (C := RX1) (T := TX1) (N := 4) (n := 4) hts (fun w hw => fd_sub w (inX1 w hw)) (hts (.instantiable RX1 4) (by decide +kernel))
  obtain ⟨c2, iS2, hKn2⟩ := u_known (C := RX2) (T := TX2) (N := 4) (n := 4) hts (fun w hw => fd_sub w (inX2 w hw)) (hts (.instantiable RX2 4) (by decide +kernel))
  obtain ⟨c3, iS3, hKn3⟩ := u_known (C := RX3) (T := TX3) (N := 1) (n := 1) hts (fun w hw => fd_sub w (inX3 w hw)) (hts (.instantiable RX3 1) (by decide +kernel))
  obtain ⟨c4, iS4, hKn4⟩ := u_known (C := RX4) (T := TX4) (N := 4) (n := 4) hts (fun w hw => fd_sub w (inX4 w hw)) (hts (.instantiable RX4 4) (by decide +kernel))
  obtain ⟨c5, iS5, hKn5⟩ := u_known (C := RX5) (T := TX5) (N := 1) (n := 1) hts (fun w hw => fd_sub w (inX5 w hw)) (hts (.instantiable RX5 1) (by decide +kernel))
  obtain ⟨c6, iS6, hKn6⟩ := u_known (C := RX6) (T := TX6) (N := 3) (n := 3) hts (fun w hw => fd_sub w (inX6 w hw)) (hts (.instantiable RX6 3) (by decide +kernel))
  obtain ⟨c7, iS7, hKn7⟩ := u_known (C := RX7) (T := TX7) (N := 11) (n := 11) hts (fun w hw => fd_sub w (inX7 w hw)) (hts (.instantiable RX7 11) (by decide +kernel))
  obtain ⟨c8, iS8, hKn8⟩ := u_known (C := RX8) (T := TX8) (N := 8) (n := 8) hts (fun w hw => fd_sub w (inX8 w hw)) (hts (.instantiable RX8 8) (by decide +kernel))
  obtain ⟨c9, iS9, hKn9⟩ := u_known (C := RX9) (T := TX9) (N := 31) (n := 31) hts (fun w hw => fd_sub w (inX9 w hw)) (hts (.instantiable RX9 31) (by decide +kernel))
  obtain ⟨dC, dI, hKc⟩ : ∃ (dC : Nat → ClassId) (dI : Nat → Nat → Nat), ∀ (k : Nat) (q : vw_C), vwCl[k]? = some q → u_Kn s q.1 q.2.1 q.2.2 (dC k) (dI k) := by
    refine ⟨fun k => if k = 0 then c0 else if k = 1 then c1 else if k = 2 then c2 else if k = 3 then c3 else if k = 4 then c4 else if k = 5 then c5 else if k = 6 then c6 else if k = 7 then c7 else if k = 8 then c8 else c9, fun k => if k = 0 then iS0 else if k = 1 then iS1 else if k = 2 then iS2 else if k = 3 then iS3 else if k = 4 then iS4 else if k = 5 then iS5 else if k = 6 then iS6 else if k = 7 then iS7 else if k = 8 then iS8 else iS9, ?_⟩
    intro k q hq
    match k, hq with
    | 0, hq => cases hq; exact hKn0
    | 1, hq => cases hq; exact hKn1
    | 2, hq => cases hq; exact hKn2
    | 3, hq => cases hq; exact hKn3
    | 4, hq => cases hq; exact hKn4
    | 5, hq => cases hq; exact hKn5
    | 6, hq => cases hq; exact hKn6
    | 7, hq => cases hq; exact hKn7
    | 8, hq => cases hq; exact hKn8
    | 9, hq => cases hq; exact hKn9
    | k + 10, hq => simp [vwCl] at hq
  obtain ⟨aI, qI1, qI2⟩ := fd_arrP (hts _ (fd_sub _ kw_aI)) (fun _ h => h)
  obtain ⟨aL, qL1, qL2⟩ := fd_arrP (hts _ (fd_sub _ kw_aL)) (fun _ h => h)
  obtain ⟨aZ, qZ1, qZ2⟩ := fd_arrP (hts _ (fd_sub _ kw_aZ)) (fun _ h => h)
  obtain ⟨aT, qT1, qT2⟩ := fd_arrO (hts _ fd_aoT)
  obtain ⟨aS, qS1, qS2⟩ := fd_arrO (hts _ fd_aoS)
  obtain ⟨cA, hcA⟩ : ∃ cA : Nat → ClassId, cA 0 = aI ∧ cA 1 = aL ∧ cA 2 = aZ ∧ cA 3 = aT ∧ cA 4 = aS := ⟨fun t => if t = 0 then aI else if t = 1 then aL else if t = 2 then aZ else if t = 3 then aT else aS, rfl, rfl, rfl, rfl, rfl⟩
  obtain ⟨rfl, rfl, rfl, rfl, rfl⟩ := hcA
  have hK : va_K (dC, dI) vwCl (fd_tys cA) s := by
    refine ⟨hKc, fun k q h => ?_⟩
    match k, h with
    | 0, h => cases h; exact ⟨qI1, qI2⟩
    | 1, h => cases h; exact ⟨qL1, qL2⟩
    | 2, h => cases h; exact ⟨qZ1, qZ2⟩
    | 3, h => cases h; exact ⟨qT1, qT2⟩
    | 4, h => cases h; exact ⟨qS1, qS2⟩
    | k + 5, h => simp [fd_tys] at h
  have hKK : fd_K (dC, dI) cA s := ⟨hK, fun q hq => va_Nw.of rfl (hts _ (fd_nestIn q hq)), va_AO.of (hts _ fd_aoT), va_AO.of (hts _ fd_aoS)⟩
  have hC : fd_C (l, (dC, dI), cA, s.heap.size) (mL_law meth.name) (fd_EL (l, (dC, dI), cA, s.heap.size) b L xs) p s m #[Value.ref b] meth c := ⟨hx, hb, hml, hr, hlocks, hown, fun w hw => hts w (fd_sub w hw), hKK, Nat.le_refl _, rfl, rfl, hX, hbl, rfl⟩
  rw [lg_entry_eq]
  exact law_start (g := (l, (dC, dI), cA, s.heap.size)) hL hR0 p_type p_wipe p_undo p_fault p_place p_warm p_debt p_zero p_cloud p_smoke p_ice p_back p_warmth p_freezes p_first p_had p_stands p_lasts p_never p_owes p_hangs p_free p_where p_keep p_carry p_seen p_forget p_read p_was p_carried p_ask p_chance p_year p_sheet p_lose p_put p_get p_copy p_write p_count p_digest p e s m #[Value.ref b] below meth c hC s.heap [] _ (fun k q h => by simp [fd_w, xs_0] at h) rfl va_S.rf (lv_entry ([.ref b]) (n := 4) (Nat.le_of_ble_eq_true rfl))
