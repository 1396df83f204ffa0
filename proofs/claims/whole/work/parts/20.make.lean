/-! ===== rows for making cells ===== -/
def fd_sx (X : fd_X) (k : Nat) (s : fd_Sh) : fd_X := (X.1, fun a => if a = k then s else X.2 a)
def fd_px (X : fd_X) (s : fd_Sh) : fd_X := (X.1 + 1, fun a => if a = X.1 then s else X.2 a)
theorem fd_sx_self {X : fd_X} {k : Nat} {s : fd_Sh} : (fd_sx X k s).2 k = s := if_pos rfl
theorem fd_sx_ne {X : fd_X} {k : Nat} {s : fd_Sh} : ∀ a, a ≠ k → (fd_sx X k s).2 a = X.2 a := fun _ e => if_neg e
theorem fd_fld_setR {z : Nat} {h : fd_H} {k j q : Nat} {fs : List fd_F} (hj : j < fs.length) : (fs.set j (some (.inl q))).mapIdx (fd_val z h k) = (fs.mapIdx (fd_val z h k)).set j (.ref (z + q)) := by
  apply List.ext_getElem?
  intro i
  by_cases e : i = j
  · subst e
    rw [List.getElem?_mapIdx, List.getElem?_set_self hj, List.getElem?_set_self (by simpa using hj)]
    rfl
  · rw [List.getElem?_set_ne (Ne.symm e), List.getElem?_mapIdx, List.getElem?_set_ne (Ne.symm e), List.getElem?_mapIdx]
theorem fd_w_push {z : Nat} {cA : Nat → ClassId} {X : fd_X} {h : fd_H} {s : fd_Sh} : fd_w z cA (fd_px X s) h = fd_w z cA X h ++ [(z + X.1, fd_cell z cA h X.1 s)] := by
  unfold fd_w
  show List.map _ (List.range (X.1 + 1)) = _
  rw [List.range_succ, List.map_append]
  congr 1
  · apply List.map_congr_left
    intro a ha
    have : a ≠ X.1 := Nat.ne_of_lt (List.mem_range.mp ha)
    show (z + a, fd_cell z cA h a (if a = X.1 then s else X.2 a)) = _
    rw [if_neg this]
  · show [(z + X.1, fd_cell z cA h X.1 (if X.1 = X.1 then s else X.2 X.1))] = _
    rw [if_pos rfl]
theorem fd_pushed {g : fd_G} {X : fd_X} {h : fd_H} {s : fd_Sh} {H H1 : Heap} (hP : va_P g.2.1 vwCl (fd_w g.2.2.2 g.2.2.1 X h) H) (hz : H.size = g.2.2.2 + X.1) (o1 : ∀ q, q < H.size → H1[q]? = H[q]?) (he : va_at g.2.1 vwCl (g.2.2.2 + X.1, fd_cell g.2.2.2 g.2.2.1 h X.1 s) H1) : va_P g.2.1 vwCl (fd_w g.2.2.2 g.2.2.1 (fd_px X s) h) H1 := by
  rw [fd_w_push]
  refine (hP.kept (fun k x hx => o1 x.1 ((hP k x hx).lt))).app (fun k x hx => ?_)
  have hl : k < 1 := (List.getElem?_eq_some_iff.mp hx).1
  rw [show k = 0 by omega] at hx
  cases hx
  exact he
theorem fd_grown {g : fd_G} {s : State} {H H1 : Heap} {locs : List Loc} (hS : va_S (fun q => g.2.2.2 ≤ q) s.heap H locs) (z1 : H1.size = H.size + 1) (o1 : ∀ q, q < H.size → H1[q]? = H[q]?) : va_S (fun q => g.2.2.2 ≤ q) s.heap H1 locs := ⟨Nat.le_trans hS.1 (by omega), fun x h1 h2 => (o1 x (Nat.lt_of_lt_of_le h1 hS.1)).trans (hS.2.1 x h1 h2), hS.2.2⟩
def fd_zero : fd_H := (fun _ _ => 0, fun _ _ => 0)
theorem fd_val_zero {z : Nat} {h : fd_H} {k : Nat} (h1 : h.1 k = fun _ => 0) (h2 : h.2 k = fun _ => 0) : fd_val z h k = fd_val z fd_zero 0 := by
  funext j f
  match f with
  | none => rfl
  | some (.inl q) => rfl
  | some (.inr false) => show Value.int (h.1 k j) = Value.int 0; rw [h1]
  | some (.inr true) => show Value.long (h.2 k j) = Value.long 0; rw [h2]
theorem fd_vpz {z : Nat} {h : fd_H} {k j : Nat} {fs : List fd_F} (hj : j < fs.length) : vp_V (fs.mapIdx (fd_val z h k)) j = fd_val z h k j (fs.getD j none) := by
  unfold vp_V
  rw [List.getD_eq_getElem?_getD, List.getElem?_mapIdx, List.getD_eq_getElem?_getD, List.getElem?_eq_getElem hj]
  rfl
section fd_make
variable {g : fd_G} {M : fd_M} {E : Array Value → State → Prop} {R : Room} {Q : Array Value → State → List Frame → State → Prop} {pc : Nat} {lv : List (Nat × Value)} {st : List Value} {X X' : fd_X} {h h' : fd_H} {cells slots : Nat}
theorem fr_objInit {k idx : Nat} (hd : decode M.2.1 pc = .ok (.invokespecial idx, 3)) (hw : Cond.methodLink M.1.cls idx Lib.objectInit ∈ fd_gt) (h1 : 1 ≤ R.frames) (h2 : (st.map fun v => v.category).sum + 12 ≤ R.locals) (kk : fd_A g M E R Q (pc + 3) lv st X h cells slots) : fd_A g M E R Q pc lv (.ref (g.2.2.2 + k) :: st) X h cells slots := by
  intro p e s m args below meth c C H locs ls hP hz hS hl
  have hts := C.2.2.2.2.2.2.1
  exact W.objInit C.1 C.2.1 C.2.2.2.2.2.1 (hts _ hw) (hts _ kw_oi1) (hts _ kw_oi2) rfl (hl.1.trans C.2.2.1.symm) rfl hd h1 (by show 2 * 0 + _ + 12 ≤ _; omega) (kk p e s m args below meth c C H locs ls hP hz hS hl)
theorem fr_new {idx ci N : Nat} {Cn : String} {T : u_T} {ty : Nat → FieldType} {fs : List fd_F} (hd : decode M.2.1 pc = .ok (.new idx, 3)) (hc : vwCl[ci]? = some (Cn, T, N)) (hin : ∀ w ∈ u_ws Cn T N, w ∈ fd_gt) (hty : ∀ k, k < N → parseFieldDescriptor (T k).2.2.1 = some (ty k)) (w1 : Cond.classLink M.1.cls idx Cn ∈ fd_gt) (w2 : Cond.instantiable Cn N ∈ fd_gt) (w3 : Cond.initialized Cn ∈ fd_gt) (h01 : h.1 X.1 = fun _ => 0) (h02 : h.2 X.1 = fun _ => 0) (hfs : ∀ z j, j < N → defaultValue (ty j) = vp_V (fs.mapIdx (fd_val z fd_zero 0)) j) (hR : cells + 1 ≤ R.cells ∧ slots + N ≤ R.slots) (e' : X' = fd_px X (.inr (ci, fs)))
    (kk : fd_A g M E R Q (pc + 3) lv (.ref (g.2.2.2 + X.1) :: st) X' h (cells + 1) (slots + N)) : fd_A g M E R Q pc lv st X h cells slots := by
  subst e'
  intro p e s m args below meth c C H locs ls hP hz hS hl
  have hts := C.2.2.2.2.2.2.1
  have hKn := C.2.2.2.2.2.2.2.1.1.1 ci _ hc
  refine W.newcK C.1 C.2.1 C.2.2.2.2.2.1 (hts _ w1) (hts _ w2) (hts _ w3) rfl hd hR.1 hR.2 hKn.2.1 hz (fun H1 kC hkC e1 z1 o1 => ?_)
  rw [← hz] at o1
  exact kk p e s m args below meth c C H1 locs ls (fd_pushed hP hz o1 ⟨_, hc, (u_born ty hts hin hKn hkC e1 hty).to (fun j hj => by rw [fd_val_zero h01 h02]; exact hfs _ j hj)⟩) (by rw [z1]; exact Nat.add_assoc _ _ _) (fd_grown hS (by rw [z1, hz]) o1) hl
theorem fr_newa {t n : Nat} {x : Int32} {ty : FieldType} {atype : ArrayType} (hd : decode M.2.1 pc = .ok (.newarray atype, 2)) (w1 : Cond.arrayClass (newarray.typeOf atype) ∈ fd_gt) (hty : newarray.typeOf atype = ty) (ht : (fd_tys g.2.2.1)[t]? = some (g.2.2.1 t, ty)) (hRA : ∀ (U : State) (c0 : ClassId), va_RA U c0 ty → U.vm.findClass ("[" ++ ty.toString) = some c0) (hce : ∀ z (c0 : Nat → ClassId), va_at g.2.1 vwCl (0, fd_cell z c0 h X.1 (.inl (t, n, fd_no))) = va_at g.2.1 vwCl (0, fd_cell z c0 h X.1 (.inl (t, n, fd_no)))) (hcell : ∀ (z : Nat) (H1 : Heap), H1[g.2.2.2 + X.1]? = some (arrV (g.2.2.1 t) n (fun _ => defaultValue ty)) → va_at g.2.1 vwCl (g.2.2.2 + X.1, fd_cell z g.2.2.1 h X.1 (.inl (t, n, fd_no))) H1) (hn : ¬ x < 0) (hN : x.toNatClampNeg = n) (hb : n * componentBytes ty ≤ 536870912) (hR : cells + 1 ≤ R.cells ∧ slots + n ≤ R.slots) (e' : X' = fd_px X (.inl (t, n, fd_no)))
    (kk : fd_A g M E R Q (pc + 2) lv (.ref (g.2.2.2 + X.1) :: st) X' h (cells + 1) (slots + n)) : fd_A g M E R Q pc lv (.int x :: st) X h cells slots := by
  subst e'; subst hty
  intro p e s m args below meth c C H locs ls hP hz hS hl
  have hts := C.2.2.2.2.2.2.1
  refine va_newaK C.1 C.2.1 (hts _ w1) rfl hd rfl hn hN hb hR.1 hR.2 hz (fun H1 c0 e1 z1 o1 hAr hNm => ?_)
  have hc0 : c0 = g.2.2.1 t := Option.some.inj (hNm.symm.trans (hRA s _ (C.2.2.2.2.2.2.2.1.1.2 t _ ht).2))
  subst hc0
  rw [← hz] at o1
  exact kk p e s m args below meth c C H1 locs ls (fd_pushed hP hz o1 (hcell _ _ e1)) (by rw [z1]; exact Nat.add_assoc _ _ _) (fd_grown hS (by rw [z1, hz]) o1) hl
theorem fr_newI {n : Nat} {x : Int32} (hd : decode M.2.1 pc = .ok (.newarray .int, 2)) (h0 : h.1 X.1 = fun _ => 0) (hn : ¬ x < 0) (hN : x.toNatClampNeg = n) (hb : n ≤ 1000) (hR : cells + 1 ≤ R.cells ∧ slots + n ≤ R.slots) (e' : X' = fd_px X (.inl (0, n, fd_no))) (kk : fd_A g M E R Q (pc + 2) lv (.ref (g.2.2.2 + X.1) :: st) X' h (cells + 1) (slots + n)) : fd_A g M E R Q pc lv (.int x :: st) X h cells slots :=
  fr_newa (t := 0) (ty := .int) hd kw_aI rfl rfl (fun _ _ q => q) (fun _ _ => rfl) (fun z H1 e1 => by show H1[g.2.2.2 + X.1]? = some (arrV (g.2.2.1 0) n (fun j => .int (h.1 X.1 j))); rw [h0]; exact e1) hn hN (by show n * 4 ≤ _; omega) hR e' kk
theorem fr_newL {n : Nat} {x : Int32} (hd : decode M.2.1 pc = .ok (.newarray .long, 2)) (h0 : h.2 X.1 = fun _ => 0) (hn : ¬ x < 0) (hN : x.toNatClampNeg = n) (hb : n ≤ 1000) (hR : cells + 1 ≤ R.cells ∧ slots + n ≤ R.slots) (e' : X' = fd_px X (.inl (1, n, fd_no))) (kk : fd_A g M E R Q (pc + 2) lv (.ref (g.2.2.2 + X.1) :: st) X' h (cells + 1) (slots + n)) : fd_A g M E R Q pc lv (.int x :: st) X h cells slots :=
  fr_newa (t := 1) (ty := .long) hd kw_aL rfl rfl (fun _ _ q => q) (fun _ _ => rfl) (fun z H1 e1 => by show H1[g.2.2.2 + X.1]? = some (arrV (g.2.2.1 1) n (fun j => .long (h.2 X.1 j))); rw [h0]; exact e1) hn hN (by show n * 8 ≤ _; omega) hR e' kk
theorem fr_newZ {n : Nat} {x : Int32} (hd : decode M.2.1 pc = .ok (.newarray .boolean, 2)) (h0 : h.1 X.1 = fun _ => 0) (hn : ¬ x < 0) (hN : x.toNatClampNeg = n) (hb : n ≤ 1000) (hR : cells + 1 ≤ R.cells ∧ slots + n ≤ R.slots) (e' : X' = fd_px X (.inl (2, n, fd_no))) (kk : fd_A g M E R Q (pc + 2) lv (.ref (g.2.2.2 + X.1) :: st) X' h (cells + 1) (slots + n)) : fd_A g M E R Q pc lv (.int x :: st) X h cells slots :=
  fr_newa (t := 2) (ty := .boolean) hd kw_aZ rfl rfl (fun _ _ q => q) (fun _ _ => rfl) (fun z H1 e1 => by show H1[g.2.2.2 + X.1]? = some (arrV (g.2.2.1 2) n (fun j => .int (h.1 X.1 j))); rw [h0]; exact e1) hn hN (by show n * 1 ≤ _; omega) hR e' kk
theorem fr_anew {t n idx : Nat} {x : Int32} {Cn : String} (ht : (fd_tys g.2.2.1)[t]? = some (g.2.2.1 t, .object Cn)) (ht3 : 3 ≤ t) (hd : decode M.2.1 pc = .ok (.anewarray idx, 3)) (w1 : Cond.classLink M.1.cls idx Cn ∈ fd_gt) (hAO : ∀ U, fd_K g.2.1 g.2.2.1 U → va_AO Cn U) (hn : ¬ x < 0) (hN : x.toNatClampNeg = n) (hb : n ≤ 1000) (hR : cells + 1 ≤ R.cells ∧ slots + n ≤ R.slots) (e' : X' = fd_px X (.inl (t, n, fun _ => none)))
    (kk : fd_A g M E R Q (pc + 3) lv (.ref (g.2.2.2 + X.1) :: st) X' h (cells + 1) (slots + n)) : fd_A g M E R Q pc lv (.int x :: st) X h cells slots := by
  subst e'; subst hN
  intro p e s m args below meth c C H locs ls hP hz hS hl
  have hts := C.2.2.2.2.2.2.1
  have hK := C.2.2.2.2.2.2.2.1
  refine W.anew C.1 C.2.1 C.2.2.2.2.2.1 (hts _ w1) (va_AO.use (hAO s hK)) rfl hd rfl hn (by omega) hR.1 hR.2 (fun c0 kA comp f1 f2 f3 f4 => ?_)
  obtain ⟨kA2, comp2, -, -, -, hNm⟩ := (hK.1.2 t _ ht).2
  have hc0 : c0 = g.2.2.1 t := Option.some.inj (f1.symm.trans hNm)
  subst hc0
  rw [hz]
  generalize hH1 : H.push ({ cls := g.2.2.1 t, slots := Array.replicate x.toNatClampNeg .null, vm := .none } : Cell) = H1
  have z1 : H1.size = H.size + 1 := by rw [← hH1, Array.size_push]
  have e1 : H1[H.size]? = some (arrV (g.2.2.1 t) x.toNatClampNeg (fun _ => .null)) := by rw [← hH1, Array.getElem?_push_size, ← arrV_new]
  have o1 : ∀ q : Nat, q < H.size → H1[q]? = H[q]? := fun q hq => by rw [← hH1, Array.getElem?_push, if_neg (Nat.ne_of_lt hq)]
  refine kk p e s m args below meth c C H1 locs ls (fd_pushed hP hz o1 ?_) (by rw [z1, hz]; exact Nat.add_assoc _ _ _) (fd_grown hS z1 o1) hl
  show va_at _ _ (_, Sum.inl (g.2.2.1 t, x.toNatClampNeg, if t = 1 then _ else if t < 3 then _ else _)) H1
  rw [if_neg (by omega), if_neg (by omega)]
  show H1[g.2.2.2 + X.1]? = some (vp_cell _ _)
  rw [← hz, vp_cell_q]
  exact e1
theorem fr_aast {k t n q ci : Nat} {i : Int32} {r : vw_C} {fs : List fd_F} {rf : Nat → Option Nat} (ht : (fd_tys g.2.2.1)[t]? = some (g.2.2.1 t, .object r.1)) (ht3 : 3 ≤ t) (hd : decode M.2.1 pc = .ok (.aastore, 1)) (hk : k < X.1) (hs : X.2 k = .inl (t, n, rf)) (hq : q < X.1) (hsq : X.2 q = .inr (ci, fs)) (hc : vwCl[ci]? = some r) (hin : fd_in i n = true) (e' : X' = fd_sx X k (.inl (t, n, fun j => if j = i.toNatClampNeg then some q else rf j)))
    (kk : fd_A g M E R Q (pc + 1) lv st X' h cells slots) : fd_A g M E R Q pc lv (.ref (g.2.2.2 + q) :: .int i :: .ref (g.2.2.2 + k) :: st) X h cells slots := by
  subst e'
  intro p e s m args below meth c C H locs ls hP hz hS hl
  have hK := C.2.2.2.2.2.2.2.1
  have he := hP k _ (fd_w_get hk)
  rw [hs] at he
  have he : va_at _ _ (_, Sum.inl (g.2.2.1 t, n, if t = 1 then _ else if t < 3 then _ else _)) H := he
  rw [if_neg (by omega), if_neg (by omega)] at he
  have he : H[g.2.2.2 + k]? = some (arrV (g.2.2.1 t) n (fun j => va_rf ((rf j).map (fun q => g.2.2.2 + q)))) := he
  have hv := hP q _ (fd_w_get hq)
  rw [hsq] at hv
  obtain ⟨r', hr', cellV, g1, g2, g3, -⟩ := hv
  have hcls := (hK.1.1 ci r hc).2
  obtain ⟨kA, comp, k1, k2, k3, -⟩ := (hK.1.2 t _ ht).2
  have hcomp : comp = g.2.1.1 ci := Option.some.inj (k3.symm.trans hcls.1)
  subst hcomp
  obtain ⟨kC, hkC, -⟩ := hcls.2
  have hlt := fd_inl hin
  have h0 : ¬ i < 0 := fun q => fd_in_p hin (Or.inl q)
  refine W.aast C.1 C.2.1 he (fun q h => by cases h) (fun h => by cases h) k1 k2 rfl hkC ⟨h0, by rw [arrV_size]; exact hlt⟩ g1 (fun q h => by rw [g3] at h; cases h) (by rw [g2]; exact hkC) (by rw [g2]; exact va_assign hcls) rfl rfl hd (fun H1 e1 z1 oq => ?_)
  refine kk p e s m args below meth c C H1 _ ls (fd_upd (h := h) (h' := h) (X' := fd_sx X k _) hk rfl fd_sx_ne (fun _ _ => rfl) (fun _ _ => rfl) hP ?_ oq) (z1.trans hz) (hS.put z1 oq (Nat.le_add_right _ _)) hl
  rw [fd_sx_self]
  show va_at _ _ (_, Sum.inl (g.2.2.1 t, n, if t = 1 then _ else if t < 3 then _ else _)) H1
  rw [if_neg (by omega), if_neg (by omega)]
  show H1[g.2.2.2 + k]? = some (arrV (g.2.2.1 t) n (fun j => va_rf ((if j = i.toNatClampNeg then some q else rf j).map (fun q => g.2.2.2 + q))))
  rw [e1, arrV_store]
  congr 2
  funext a
  by_cases ha : a = i.toNatClampNeg
  · subst ha
    simp [updV, va_rf]
  · simp [updV, ha]
theorem fr_putR {k ci j q idx : Nat} {ty : FieldType} {fs : List fd_F} (hd : decode M.2.1 pc = .ok (.putfield idx, 3)) (hf : fd_FL M.1.cls idx ci j) (hft : fd_FT ci j ty true) (hM : M.1.name = "<init>" ∧ (vwCl[ci]?).map (fun q => q.1) = some M.1.cls) (hn : ∀ a, narrow ty (.ref a) = .ref a) (hfit : ∀ a, fits ty (.ref a) = true) (hk : k < X.1) (hs : X.2 k = .inr (ci, fs)) (hj : j < fs.length) (e' : X' = fd_sx X k (.inr (ci, fs.set j (some (.inl q))))) (kk : fd_A g M E R Q (pc + 3) lv st X' h cells slots) : fd_A g M E R Q pc lv (.ref (g.2.2.2 + q) :: .ref (g.2.2.2 + k) :: st) X h cells slots := by
  subst e'
  intro p e s m args below meth c C H locs ls hP hz hS hl
  have he := hP k _ (fd_w_get hk)
  rw [hs] at he
  refine fd_putW true C.1 C.2.1 C.2.2.2.2.2.1 C.2.2.2.2.2.2.1 C.2.2.2.2.2.2.2.1.1 hf hft (fun _ => ⟨C.2.2.2.2.2.2.2.2.2.1.trans hM.1, hM.2⟩) (hn _) (hfit _) (by rw [List.length_mapIdx]; exact hj) he hd (fun H1 i e1 z1 oq => ?_)
  refine kk p e s m args below meth c C H1 _ ls (fd_upd (h := h) (h' := h) (X' := fd_sx X k _) hk rfl fd_sx_ne (fun _ _ => rfl) (fun _ _ => rfl) hP ?_ oq) (z1.trans hz) (hS.put z1 oq (Nat.le_add_right _ _)) hl
  rw [fd_sx_self]
  show va_at _ _ (_, Sum.inr (ci, (fs.set j (some (.inl q))).mapIdx (fd_val g.2.2.2 h k))) H1
  rw [fd_fld_setR hj]
  exact e1
theorem fr_putIc (fin : Bool) {k ci j idx : Nat} {x : Int32} {fs : List fd_F} (hd : decode M.2.1 pc = .ok (.putfield idx, 3)) (hf : fd_FL M.1.cls idx ci j) (hft : fd_FT ci j .int fin) (hM : M.1.name = "<init>" ∧ (vwCl[ci]?).map (fun q => q.1) = some M.1.cls) (hk : k < X.1) (hs : X.2 k = .inr (ci, fs)) (hv : fs[j]? = some (some (.inr false))) (e' : h' = fd_ui h k j x) (kk : fd_A g M E R Q (pc + 3) lv st X h' cells slots) : fd_A g M E R Q pc lv (.int x :: .ref (g.2.2.2 + k) :: st) X h cells slots := fr_putI fin hd hf hft (fun _ => hM) hk hs hv (by rw [← e']; exact kk)
theorem fr_putZc {k ci j idx : Nat} {x : Bool} {fs : List fd_F} (hd : decode M.2.1 pc = .ok (.putfield idx, 3)) (hf : fd_FL M.1.cls idx ci j) (hft : fd_FT ci j .boolean false) (hk : k < X.1) (hs : X.2 k = .inr (ci, fs)) (hv : fs[j]? = some (some (.inr false))) (e' : h' = fd_ui h k j (fd_b x)) (kk : fd_A g M E R Q (pc + 3) lv st X h' cells slots) : fd_A g M E R Q pc lv (.int (fd_b x) :: .ref (g.2.2.2 + k) :: st) X h cells slots := fr_putZ false hd hf hft (fun q => by cases q) hk hs hv (by rw [← e']; exact kk)
theorem fr_putLc {k ci j idx : Nat} {x : Int64} {fs : List fd_F} (hd : decode M.2.1 pc = .ok (.putfield idx, 3)) (hf : fd_FL M.1.cls idx ci j) (hft : fd_FT ci j .long false) (hk : k < X.1) (hs : X.2 k = .inr (ci, fs)) (hv : fs[j]? = some (some (.inr true))) (e' : h' = fd_ul h k j x) (kk : fd_A g M E R Q (pc + 3) lv st X h' cells slots) : fd_A g M E R Q pc lv (.long x :: .ref (g.2.2.2 + k) :: st) X h cells slots := fr_putL false hd hf hft (fun q => by cases q) hk hs hv (by rw [← e']; exact kk)
/-- a constructor's call -/
theorem fr_callC {Mc : fd_M} {d n idx mc ms k : Nat} {av rest : List Value} (hd : decode M.2.1 pc = .ok (.invokespecial idx, 3)) (hy : fd_YI Mc n) (hw : Cond.methodLink M.1.cls idx Mc.1 ∈ fd_gt ∨ (M.1.cls, idx, Mc.1, "FrostDebts") ∈ fd_nest) (hn : av.length = n) (hst : st = av.reverse ++ .ref (g.2.2.2 + k) :: rest) (hc8 : (rest.map fun v => v.category).sum ≤ 8) (hR : d + 1 ≤ R.frames ∧ 19 + Mc.2.2.1 + 40 * d ≤ R.locals ∧ cells + mc ≤ R.cells ∧ slots + ms ≤ R.slots) (hS0 : fd_S g Mc d (.ref (g.2.2.2 + k) :: av) X h none X' h' mc ms) (kk : fd_A g M E R Q (pc + 3) lv rest X' h' (cells + mc) (slots + ms)) : fd_A g M E R Q pc lv st X h cells slots := hw.elim (fun hw => fr_callI hd hy hw hn hst hc8 hR hS0 kk) (fun hw => fr_callIN hd hy hw hn hst hc8 hR hS0 kk)
end fd_make
theorem df_X0 : ∀ (z j : Nat), j < 2 → defaultValue (tyX0 j) = vp_V (([none, some (.inr false)] : List fd_F).mapIdx (fd_val z fd_zero 0)) j := by
  intro z j hj
  rw [fd_vpz]
  · rcases (show j = 0 ∨ j = 1 by omega) with rfl | rfl <;> rfl
  · exact hj
theorem df_X1 : ∀ (z j : Nat), j < 4 → defaultValue (tyX1 j) = vp_V (([none, none, none, some (.inr false)] : List fd_F).mapIdx (fd_val z fd_zero 0)) j := by
  intro z j hj
  rw [fd_vpz]
  · rcases (show j = 0 ∨ j = 1 ∨ j = 2 ∨ j = 3 by omega) with rfl | rfl | rfl | rfl <;> rfl
  · exact hj
theorem df_X2 : ∀ (z j : Nat), j < 4 → defaultValue (tyX2 j) = vp_V (([none, none, none, some (.inr false)] : List fd_F).mapIdx (fd_val z fd_zero 0)) j := by
  intro z j hj
  rw [fd_vpz]
  · rcases (show j = 0 ∨ j = 1 ∨ j = 2 ∨ j = 3 by omega) with rfl | rfl | rfl | rfl <;> rfl
  · exact hj
theorem df_X3 : ∀ (z j : Nat), j < 1 → defaultValue (tyX3 j) = vp_V (([none] : List fd_F).mapIdx (fd_val z fd_zero 0)) j := by
  intro z j hj
  rw [fd_vpz]
  · rcases (show j = 0 by omega) with rfl <;> rfl
  · exact hj
theorem df_X4 : ∀ (z j : Nat), j < 4 → defaultValue (tyX4 j) = vp_V (([none, some (.inr false), some (.inr false), some (.inr false)] : List fd_F).mapIdx (fd_val z fd_zero 0)) j := by
  intro z j hj
  rw [fd_vpz]
  · rcases (show j = 0 ∨ j = 1 ∨ j = 2 ∨ j = 3 by omega) with rfl | rfl | rfl | rfl <;> rfl
  · exact hj
theorem df_X5 : ∀ (z j : Nat), j < 1 → defaultValue (tyX5 j) = vp_V (([none] : List fd_F).mapIdx (fd_val z fd_zero 0)) j := by
  intro z j hj
  rw [fd_vpz]
  · rcases (show j = 0 by omega) with rfl <;> rfl
  · exact hj
theorem df_X6 : ∀ (z j : Nat), j < 3 → defaultValue (tyX6 j) = vp_V (([none, some (.inr false), some (.inr false)] : List fd_F).mapIdx (fd_val z fd_zero 0)) j := by
  intro z j hj
  rw [fd_vpz]
  · rcases (show j = 0 ∨ j = 1 ∨ j = 2 by omega) with rfl | rfl | rfl <;> rfl
  · exact hj
theorem df_X7 : ∀ (z j : Nat), j < 11 → defaultValue (tyX7 j) = vp_V (([none, none, none, none, none, some (.inr false), some (.inr false), some (.inr true), none, none, none] : List fd_F).mapIdx (fd_val z fd_zero 0)) j := by
  intro z j hj
  rw [fd_vpz]
  · rcases (show j = 0 ∨ j = 1 ∨ j = 2 ∨ j = 3 ∨ j = 4 ∨ j = 5 ∨ j = 6 ∨ j = 7 ∨ j = 8 ∨ j = 9 ∨ j = 10 by omega) with rfl | rfl | rfl | rfl | rfl | rfl | rfl | rfl | rfl | rfl | rfl <;> rfl
  · exact hj
theorem df_X8 : ∀ (z j : Nat), j < 8 → defaultValue (tyX8 j) = vp_V (([none, none, none, none, none, none, none, some (.inr false)] : List fd_F).mapIdx (fd_val z fd_zero 0)) j := by
  intro z j hj
  rw [fd_vpz]
  · rcases (show j = 0 ∨ j = 1 ∨ j = 2 ∨ j = 3 ∨ j = 4 ∨ j = 5 ∨ j = 6 ∨ j = 7 by omega) with rfl | rfl | rfl | rfl | rfl | rfl | rfl | rfl <;> rfl
  · exact hj
theorem df_X9 : ∀ (z j : Nat), j < 31 → defaultValue (tyX9 j) = vp_V (([none, none, some (.inr false), none, none, some (.inr false), none, some (.inr false), none, none, none, none, none, some (.inr false), none, none, none, none, some (.inr false), none, none, some (.inr false), none, none, none, none, none, none, none, none, some (.inr false)] : List fd_F).mapIdx (fd_val z fd_zero 0)) j := by
  intro z j hj
  rw [fd_vpz]
  · rcases (show j = 0 ∨ j = 1 ∨ j = 2 ∨ j = 3 ∨ j = 4 ∨ j = 5 ∨ j = 6 ∨ j = 7 ∨ j = 8 ∨ j = 9 ∨ j = 10 ∨ j = 11 ∨ j = 12 ∨ j = 13 ∨ j = 14 ∨ j = 15 ∨ j = 16 ∨ j = 17 ∨ j = 18 ∨ j = 19 ∨ j = 20 ∨ j = 21 ∨ j = 22 ∨ j = 23 ∨ j = 24 ∨ j = 25 ∨ j = 26 ∨ j = 27 ∨ j = 28 ∨ j = 29 ∨ j = 30 by omega) with rfl | rfl | rfl | rfl | rfl | rfl | rfl | rfl | rfl | rfl | rfl | rfl | rfl | rfl | rfl | rfl | rfl | rfl | rfl | rfl | rfl | rfl | rfl | rfl | rfl | rfl | rfl | rfl | rfl | rfl | rfl <;> rfl
  · exact hj
theorem dX0_init_0 : decode cX0_init 0 = .ok (.aload_n 0, 1) := by decide +kernel
theorem dX0_init_1 : decode cX0_init 1 = .ok (.invokespecial 3, 3) := by decide +kernel
theorem dX0_init_4 : decode cX0_init 4 = .ok (.aload_n 0, 1) := by decide +kernel
theorem dX0_init_5 : decode cX0_init 5 = .ok (.new 9, 3) := by decide +kernel
theorem dX0_init_8 : decode cX0_init 8 = .ok (.dup, 1) := by decide +kernel
theorem dX0_init_9 : decode cX0_init 9 = .ok (.bipush 45, 2) := by decide +kernel
theorem dX0_init_11 : decode cX0_init 11 = .ok (.invokespecial 11, 3) := by decide +kernel
theorem dX0_init_14 : decode cX0_init 14 = .ok (.putfield 14, 3) := by decide +kernel
theorem dX0_init_17 : decode cX0_init 17 = .ok (.aload_n 0, 1) := by decide +kernel
theorem dX0_init_18 : decode cX0_init 18 = .ok (.iconst 0, 1) := by decide +kernel
theorem dX0_init_19 : decode cX0_init 19 = .ok (.putfield 20, 3) := by decide +kernel
theorem dX0_init_22 : decode cX0_init 22 = .ok (.return_, 1) := by decide +kernel
theorem dX1_init_0 : decode cX1_init 0 = .ok (.aload_n 0, 1) := by decide +kernel
theorem dX1_init_1 : decode cX1_init 1 = .ok (.invokespecial 3, 3) := by decide +kernel
theorem dX1_init_4 : decode cX1_init 4 = .ok (.aload_n 0, 1) := by decide +kernel
theorem dX1_init_5 : decode cX1_init 5 = .ok (.new 9, 3) := by decide +kernel
theorem dX1_init_8 : decode cX1_init 8 = .ok (.dup, 1) := by decide +kernel
theorem dX1_init_9 : decode cX1_init 9 = .ok (.bipush 8, 2) := by decide +kernel
theorem dX1_init_11 : decode cX1_init 11 = .ok (.invokespecial 11, 3) := by decide +kernel
theorem dX1_init_14 : decode cX1_init 14 = .ok (.putfield 14, 3) := by decide +kernel
theorem dX1_init_17 : decode cX1_init 17 = .ok (.aload_n 0, 1) := by decide +kernel
theorem dX1_init_18 : decode cX1_init 18 = .ok (.new 9, 3) := by decide +kernel
theorem dX1_init_21 : decode cX1_init 21 = .ok (.dup, 1) := by decide +kernel
theorem dX1_init_22 : decode cX1_init 22 = .ok (.bipush 8, 2) := by decide +kernel
theorem dX1_init_24 : decode cX1_init 24 = .ok (.invokespecial 11, 3) := by decide +kernel
theorem dX1_init_27 : decode cX1_init 27 = .ok (.putfield 20, 3) := by decide +kernel
theorem dX1_init_30 : decode cX1_init 30 = .ok (.aload_n 0, 1) := by decide +kernel
theorem dX1_init_31 : decode cX1_init 31 = .ok (.new 9, 3) := by decide +kernel
theorem dX1_init_34 : decode cX1_init 34 = .ok (.dup, 1) := by decide +kernel
theorem dX1_init_35 : decode cX1_init 35 = .ok (.bipush 8, 2) := by decide +kernel
theorem dX1_init_37 : decode cX1_init 37 = .ok (.invokespecial 11, 3) := by decide +kernel
theorem dX1_init_40 : decode cX1_init 40 = .ok (.putfield 23, 3) := by decide +kernel
theorem dX1_init_43 : decode cX1_init 43 = .ok (.aload_n 0, 1) := by decide +kernel
theorem dX1_init_44 : decode cX1_init 44 = .ok (.iconst 0, 1) := by decide +kernel
theorem dX1_init_45 : decode cX1_init 45 = .ok (.putfield 26, 3) := by decide +kernel
theorem dX1_init_48 : decode cX1_init 48 = .ok (.return_, 1) := by decide +kernel
theorem dX2_init_0 : decode cX2_init 0 = .ok (.aload_n 0, 1) := by decide +kernel
theorem dX2_init_1 : decode cX2_init 1 = .ok (.invokespecial 3, 3) := by decide +kernel
theorem dX2_init_4 : decode cX2_init 4 = .ok (.aload_n 0, 1) := by decide +kernel
theorem dX2_init_5 : decode cX2_init 5 = .ok (.new 9, 3) := by decide +kernel
theorem dX2_init_8 : decode cX2_init 8 = .ok (.dup, 1) := by decide +kernel
theorem dX2_init_9 : decode cX2_init 9 = .ok (.bipush 8, 2) := by decide +kernel
theorem dX2_init_11 : decode cX2_init 11 = .ok (.invokespecial 11, 3) := by decide +kernel
theorem dX2_init_14 : decode cX2_init 14 = .ok (.putfield 14, 3) := by decide +kernel
theorem dX2_init_17 : decode cX2_init 17 = .ok (.aload_n 0, 1) := by decide +kernel
theorem dX2_init_18 : decode cX2_init 18 = .ok (.new 9, 3) := by decide +kernel
theorem dX2_init_21 : decode cX2_init 21 = .ok (.dup, 1) := by decide +kernel
theorem dX2_init_22 : decode cX2_init 22 = .ok (.bipush 8, 2) := by decide +kernel
theorem dX2_init_24 : decode cX2_init 24 = .ok (.invokespecial 11, 3) := by decide +kernel
theorem dX2_init_27 : decode cX2_init 27 = .ok (.putfield 20, 3) := by decide +kernel
theorem dX2_init_30 : decode cX2_init 30 = .ok (.aload_n 0, 1) := by decide +kernel
theorem dX2_init_31 : decode cX2_init 31 = .ok (.new 9, 3) := by decide +kernel
theorem dX2_init_34 : decode cX2_init 34 = .ok (.dup, 1) := by decide +kernel
theorem dX2_init_35 : decode cX2_init 35 = .ok (.bipush 8, 2) := by decide +kernel
theorem dX2_init_37 : decode cX2_init 37 = .ok (.invokespecial 11, 3) := by decide +kernel
theorem dX2_init_40 : decode cX2_init 40 = .ok (.putfield 23, 3) := by decide +kernel
theorem dX2_init_43 : decode cX2_init 43 = .ok (.aload_n 0, 1) := by decide +kernel
theorem dX2_init_44 : decode cX2_init 44 = .ok (.iconst 0, 1) := by decide +kernel
theorem dX2_init_45 : decode cX2_init 45 = .ok (.putfield 26, 3) := by decide +kernel
theorem dX2_init_48 : decode cX2_init 48 = .ok (.return_, 1) := by decide +kernel
theorem dX3_init_0 : decode cX3_init 0 = .ok (.aload_n 0, 1) := by decide +kernel
theorem dX3_init_1 : decode cX3_init 1 = .ok (.invokespecial 1, 3) := by decide +kernel
theorem dX3_init_4 : decode cX3_init 4 = .ok (.aload_n 0, 1) := by decide +kernel
theorem dX3_init_5 : decode cX3_init 5 = .ok (.iconst 0, 1) := by decide +kernel
theorem dX3_init_6 : decode cX3_init 6 = .ok (.iload_n 1, 1) := by decide +kernel
theorem dX3_init_7 : decode cX3_init 7 = .ok (.invokestatic 7, 3) := by decide +kernel
theorem dX3_init_10 : decode cX3_init 10 = .ok (.newarray .int, 2) := by decide +kernel
theorem dX3_init_12 : decode cX3_init 12 = .ok (.putfield 13, 3) := by decide +kernel
theorem dX3_init_15 : decode cX3_init 15 = .ok (.return_, 1) := by decide +kernel
theorem dX4_init_0 : decode cX4_init 0 = .ok (.aload_n 0, 1) := by decide +kernel
theorem dX4_init_1 : decode cX4_init 1 = .ok (.invokespecial 3, 3) := by decide +kernel
theorem dX4_init_4 : decode cX4_init 4 = .ok (.aload_n 0, 1) := by decide +kernel
theorem dX4_init_5 : decode cX4_init 5 = .ok (.new 9, 3) := by decide +kernel
theorem dX4_init_8 : decode cX4_init 8 = .ok (.dup, 1) := by decide +kernel
theorem dX4_init_9 : decode cX4_init 9 = .ok (.bipush 48, 2) := by decide +kernel
theorem dX4_init_11 : decode cX4_init 11 = .ok (.invokespecial 11, 3) := by decide +kernel
theorem dX4_init_14 : decode cX4_init 14 = .ok (.putfield 14, 3) := by decide +kernel
theorem dX4_init_17 : decode cX4_init 17 = .ok (.aload_n 0, 1) := by decide +kernel
theorem dX4_init_18 : decode cX4_init 18 = .ok (.iconst 1, 1) := by decide +kernel
theorem dX4_init_19 : decode cX4_init 19 = .ok (.putfield 20, 3) := by decide +kernel
theorem dX4_init_22 : decode cX4_init 22 = .ok (.aload_n 0, 1) := by decide +kernel
theorem dX4_init_23 : decode cX4_init 23 = .ok (.iconst 0, 1) := by decide +kernel
theorem dX4_init_24 : decode cX4_init 24 = .ok (.putfield 24, 3) := by decide +kernel
theorem dX4_init_27 : decode cX4_init 27 = .ok (.aload_n 0, 1) := by decide +kernel
theorem dX4_init_28 : decode cX4_init 28 = .ok (.iconst 0, 1) := by decide +kernel
theorem dX4_init_29 : decode cX4_init 29 = .ok (.putfield 28, 3) := by decide +kernel
theorem dX4_init_32 : decode cX4_init 32 = .ok (.return_, 1) := by decide +kernel
theorem dX5_init_0 : decode cX5_init 0 = .ok (.aload_n 0, 1) := by decide +kernel
theorem dX5_init_1 : decode cX5_init 1 = .ok (.invokespecial 3, 3) := by decide +kernel
theorem dX5_init_4 : decode cX5_init 4 = .ok (.aload_n 0, 1) := by decide +kernel
theorem dX5_init_5 : decode cX5_init 5 = .ok (.bipush 8, 2) := by decide +kernel
theorem dX5_init_7 : decode cX5_init 7 = .ok (.newarray .long, 2) := by decide +kernel
theorem dX5_init_9 : decode cX5_init 9 = .ok (.putfield 9, 3) := by decide +kernel
theorem dX5_init_12 : decode cX5_init 12 = .ok (.return_, 1) := by decide +kernel
theorem dX6_init_0 : decode cX6_init 0 = .ok (.aload_n 0, 1) := by decide +kernel
theorem dX6_init_1 : decode cX6_init 1 = .ok (.invokespecial 1, 3) := by decide +kernel
theorem dX6_init_4 : decode cX6_init 4 = .ok (.aload_n 0, 1) := by decide +kernel
theorem dX6_init_5 : decode cX6_init 5 = .ok (.iconst 0, 1) := by decide +kernel
theorem dX6_init_6 : decode cX6_init 6 = .ok (.putfield 7, 3) := by decide +kernel
theorem dX6_init_9 : decode cX6_init 9 = .ok (.aload_n 0, 1) := by decide +kernel
theorem dX6_init_10 : decode cX6_init 10 = .ok (.iload_n 1, 1) := by decide +kernel
theorem dX6_init_11 : decode cX6_init 11 = .ok (.putfield 13, 3) := by decide +kernel
theorem dX6_init_14 : decode cX6_init 14 = .ok (.aload_n 0, 1) := by decide +kernel
theorem dX6_init_15 : decode cX6_init 15 = .ok (.new 16, 3) := by decide +kernel
theorem dX6_init_18 : decode cX6_init 18 = .ok (.dup, 1) := by decide +kernel
theorem dX6_init_19 : decode cX6_init 19 = .ok (.iload_n 1, 1) := by decide +kernel
theorem dX6_init_20 : decode cX6_init 20 = .ok (.invokespecial 18, 3) := by decide +kernel
theorem dX6_init_23 : decode cX6_init 23 = .ok (.putfield 21, 3) := by decide +kernel
theorem dX6_init_26 : decode cX6_init 26 = .ok (.return_, 1) := by decide +kernel
theorem dX7_init_0 : decode cX7_init 0 = .ok (.aload_n 0, 1) := by decide +kernel
theorem dX7_init_1 : decode cX7_init 1 = .ok (.invokespecial 3, 3) := by decide +kernel
theorem dX7_init_4 : decode cX7_init 4 = .ok (.aload_n 0, 1) := by decide +kernel
theorem dX7_init_5 : decode cX7_init 5 = .ok (.new 9, 3) := by decide +kernel
theorem dX7_init_8 : decode cX7_init 8 = .ok (.dup, 1) := by decide +kernel
theorem dX7_init_9 : decode cX7_init 9 = .ok (.invokespecial 11, 3) := by decide +kernel
theorem dX7_init_12 : decode cX7_init 12 = .ok (.putfield 12, 3) := by decide +kernel
theorem dX7_init_15 : decode cX7_init 15 = .ok (.aload_n 0, 1) := by decide +kernel
theorem dX7_init_16 : decode cX7_init 16 = .ok (.new 18, 3) := by decide +kernel
theorem dX7_init_19 : decode cX7_init 19 = .ok (.dup, 1) := by decide +kernel
theorem dX7_init_20 : decode cX7_init 20 = .ok (.invokespecial 20, 3) := by decide +kernel
theorem dX7_init_23 : decode cX7_init 23 = .ok (.putfield 21, 3) := by decide +kernel
theorem dX7_init_26 : decode cX7_init 26 = .ok (.aload_n 0, 1) := by decide +kernel
theorem dX7_init_27 : decode cX7_init 27 = .ok (.new 18, 3) := by decide +kernel
theorem dX7_init_30 : decode cX7_init 30 = .ok (.dup, 1) := by decide +kernel
theorem dX7_init_31 : decode cX7_init 31 = .ok (.invokespecial 20, 3) := by decide +kernel
theorem dX7_init_34 : decode cX7_init 34 = .ok (.putfield 25, 3) := by decide +kernel
theorem dX7_init_37 : decode cX7_init 37 = .ok (.aload_n 0, 1) := by decide +kernel
theorem dX7_init_38 : decode cX7_init 38 = .ok (.new 18, 3) := by decide +kernel
theorem dX7_init_41 : decode cX7_init 41 = .ok (.dup, 1) := by decide +kernel
theorem dX7_init_42 : decode cX7_init 42 = .ok (.invokespecial 20, 3) := by decide +kernel
theorem dX7_init_45 : decode cX7_init 45 = .ok (.putfield 28, 3) := by decide +kernel
theorem dX7_init_48 : decode cX7_init 48 = .ok (.aload_n 0, 1) := by decide +kernel
theorem dX7_init_49 : decode cX7_init 49 = .ok (.new 31, 3) := by decide +kernel
theorem dX7_init_52 : decode cX7_init 52 = .ok (.dup, 1) := by decide +kernel
theorem dX7_init_53 : decode cX7_init 53 = .ok (.bipush 40, 2) := by decide +kernel
theorem dX7_init_55 : decode cX7_init 55 = .ok (.invokespecial 33, 3) := by decide +kernel
theorem dX7_init_58 : decode cX7_init 58 = .ok (.putfield 36, 3) := by decide +kernel
theorem dX7_init_61 : decode cX7_init 61 = .ok (.aload_n 0, 1) := by decide +kernel
theorem dX7_init_62 : decode cX7_init 62 = .ok (.iconst 0, 1) := by decide +kernel
theorem dX7_init_63 : decode cX7_init 63 = .ok (.putfield 40, 3) := by decide +kernel
theorem dX7_init_66 : decode cX7_init 66 = .ok (.aload_n 0, 1) := by decide +kernel
theorem dX7_init_67 : decode cX7_init 67 = .ok (.bipush 6, 2) := by decide +kernel
theorem dX7_init_69 : decode cX7_init 69 = .ok (.putfield 44, 3) := by decide +kernel
theorem dX7_init_72 : decode cX7_init 72 = .ok (.aload_n 0, 1) := by decide +kernel
theorem dX7_init_73 : decode cX7_init 73 = .ok (.lconst 0, 1) := by decide +kernel
theorem dX7_init_74 : decode cX7_init 74 = .ok (.putfield 47, 3) := by decide +kernel
theorem dX7_init_77 : decode cX7_init 77 = .ok (.aload_n 0, 1) := by decide +kernel
theorem dX7_init_78 : decode cX7_init 78 = .ok (.new 51, 3) := by decide +kernel
theorem dX7_init_81 : decode cX7_init 81 = .ok (.dup, 1) := by decide +kernel
theorem dX7_init_82 : decode cX7_init 82 = .ok (.invokespecial 53, 3) := by decide +kernel
theorem dX7_init_85 : decode cX7_init 85 = .ok (.putfield 54, 3) := by decide +kernel
theorem dX7_init_88 : decode cX7_init 88 = .ok (.aload_n 0, 1) := by decide +kernel
theorem dX7_init_89 : decode cX7_init 89 = .ok (.new 51, 3) := by decide +kernel
theorem dX7_init_92 : decode cX7_init 92 = .ok (.dup, 1) := by decide +kernel
theorem dX7_init_93 : decode cX7_init 93 = .ok (.invokespecial 53, 3) := by decide +kernel
theorem dX7_init_96 : decode cX7_init 96 = .ok (.putfield 58, 3) := by decide +kernel
theorem dX7_init_99 : decode cX7_init 99 = .ok (.aload_n 0, 1) := by decide +kernel
theorem dX7_init_100 : decode cX7_init 100 = .ok (.new 51, 3) := by decide +kernel
theorem dX7_init_103 : decode cX7_init 103 = .ok (.dup, 1) := by decide +kernel
theorem dX7_init_104 : decode cX7_init 104 = .ok (.invokespecial 53, 3) := by decide +kernel
theorem dX7_init_107 : decode cX7_init 107 = .ok (.putfield 61, 3) := by decide +kernel
theorem dX7_init_110 : decode cX7_init 110 = .ok (.return_, 1) := by decide +kernel
theorem dX8_init_0 : decode cX8_init 0 = .ok (.aload_n 0, 1) := by decide +kernel
theorem dX8_init_1 : decode cX8_init 1 = .ok (.invokespecial 1, 3) := by decide +kernel
theorem dX8_init_4 : decode cX8_init 4 = .ok (.aload_n 0, 1) := by decide +kernel
theorem dX8_init_5 : decode cX8_init 5 = .ok (.iconst 3, 1) := by decide +kernel
theorem dX8_init_6 : decode cX8_init 6 = .ok (.anewarray 7, 3) := by decide +kernel
theorem dX8_init_9 : decode cX8_init 9 = .ok (.dup, 1) := by decide +kernel
theorem dX8_init_10 : decode cX8_init 10 = .ok (.iconst 0, 1) := by decide +kernel
theorem dX8_init_11 : decode cX8_init 11 = .ok (.new 7, 3) := by decide +kernel
theorem dX8_init_14 : decode cX8_init 14 = .ok (.dup, 1) := by decide +kernel
theorem dX8_init_15 : decode cX8_init 15 = .ok (.bipush 23, 2) := by decide +kernel
theorem dX8_init_17 : decode cX8_init 17 = .ok (.invokespecial 11, 3) := by decide +kernel
theorem dX8_init_20 : decode cX8_init 20 = .ok (.aastore, 1) := by decide +kernel
theorem dX8_init_21 : decode cX8_init 21 = .ok (.dup, 1) := by decide +kernel
theorem dX8_init_22 : decode cX8_init 22 = .ok (.iconst 1, 1) := by decide +kernel
theorem dX8_init_23 : decode cX8_init 23 = .ok (.new 7, 3) := by decide +kernel
theorem dX8_init_26 : decode cX8_init 26 = .ok (.dup, 1) := by decide +kernel
theorem dX8_init_27 : decode cX8_init 27 = .ok (.bipush 40, 2) := by decide +kernel
theorem dX8_init_29 : decode cX8_init 29 = .ok (.invokespecial 11, 3) := by decide +kernel
theorem dX8_init_32 : decode cX8_init 32 = .ok (.aastore, 1) := by decide +kernel
theorem dX8_init_33 : decode cX8_init 33 = .ok (.dup, 1) := by decide +kernel
theorem dX8_init_34 : decode cX8_init 34 = .ok (.iconst 2, 1) := by decide +kernel
theorem dX8_init_35 : decode cX8_init 35 = .ok (.new 7, 3) := by decide +kernel
theorem dX8_init_38 : decode cX8_init 38 = .ok (.dup, 1) := by decide +kernel
theorem dX8_init_39 : decode cX8_init 39 = .ok (.bipush 71, 2) := by decide +kernel
theorem dX8_init_41 : decode cX8_init 41 = .ok (.invokespecial 11, 3) := by decide +kernel
theorem dX8_init_44 : decode cX8_init 44 = .ok (.aastore, 1) := by decide +kernel
theorem dX8_init_45 : decode cX8_init 45 = .ok (.putfield 14, 3) := by decide +kernel
theorem dX8_init_48 : decode cX8_init 48 = .ok (.aload_n 0, 1) := by decide +kernel
theorem dX8_init_49 : decode cX8_init 49 = .ok (.new 18, 3) := by decide +kernel
theorem dX8_init_52 : decode cX8_init 52 = .ok (.dup, 1) := by decide +kernel
theorem dX8_init_53 : decode cX8_init 53 = .ok (.invokespecial 20, 3) := by decide +kernel
theorem dX8_init_56 : decode cX8_init 56 = .ok (.putfield 21, 3) := by decide +kernel
theorem dX8_init_59 : decode cX8_init 59 = .ok (.aload_n 0, 1) := by decide +kernel
theorem dX8_init_60 : decode cX8_init 60 = .ok (.aload_n 0, 1) := by decide +kernel
theorem dX8_init_61 : decode cX8_init 61 = .ok (.getfield 21, 3) := by decide +kernel
theorem dX8_init_64 : decode cX8_init 64 = .ok (.getfield 25, 3) := by decide +kernel
theorem dX8_init_67 : decode cX8_init 67 = .ok (.putfield 29, 3) := by decide +kernel
theorem dX8_init_70 : decode cX8_init 70 = .ok (.aload_n 0, 1) := by decide +kernel
theorem dX8_init_71 : decode cX8_init 71 = .ok (.new 30, 3) := by decide +kernel
theorem dX8_init_74 : decode cX8_init 74 = .ok (.dup, 1) := by decide +kernel
theorem dX8_init_75 : decode cX8_init 75 = .ok (.invokespecial 32, 3) := by decide +kernel
theorem dX8_init_78 : decode cX8_init 78 = .ok (.putfield 33, 3) := by decide +kernel
theorem dX8_init_81 : decode cX8_init 81 = .ok (.aload_n 0, 1) := by decide +kernel
theorem dX8_init_82 : decode cX8_init 82 = .ok (.new 37, 3) := by decide +kernel
theorem dX8_init_85 : decode cX8_init 85 = .ok (.dup, 1) := by decide +kernel
theorem dX8_init_86 : decode cX8_init 86 = .ok (.invokespecial 39, 3) := by decide +kernel
theorem dX8_init_89 : decode cX8_init 89 = .ok (.putfield 40, 3) := by decide +kernel
theorem dX8_init_92 : decode cX8_init 92 = .ok (.aload_n 0, 1) := by decide +kernel
theorem dX8_init_93 : decode cX8_init 93 = .ok (.new 44, 3) := by decide +kernel
theorem dX8_init_96 : decode cX8_init 96 = .ok (.dup, 1) := by decide +kernel
theorem dX8_init_97 : decode cX8_init 97 = .ok (.invokespecial 46, 3) := by decide +kernel
theorem dX8_init_100 : decode cX8_init 100 = .ok (.putfield 47, 3) := by decide +kernel
theorem dX8_init_103 : decode cX8_init 103 = .ok (.aload_n 0, 1) := by decide +kernel
theorem dX8_init_104 : decode cX8_init 104 = .ok (.iconst 4, 1) := by decide +kernel
theorem dX8_init_105 : decode cX8_init 105 = .ok (.anewarray 51, 3) := by decide +kernel
theorem dX8_init_108 : decode cX8_init 108 = .ok (.dup, 1) := by decide +kernel
theorem dX8_init_109 : decode cX8_init 109 = .ok (.iconst 0, 1) := by decide +kernel
theorem dX8_init_110 : decode cX8_init 110 = .ok (.new 51, 3) := by decide +kernel
theorem dX8_init_113 : decode cX8_init 113 = .ok (.dup, 1) := by decide +kernel
theorem dX8_init_114 : decode cX8_init 114 = .ok (.invokespecial 53, 3) := by decide +kernel
theorem dX8_init_117 : decode cX8_init 117 = .ok (.aastore, 1) := by decide +kernel
theorem dX8_init_118 : decode cX8_init 118 = .ok (.dup, 1) := by decide +kernel
theorem dX8_init_119 : decode cX8_init 119 = .ok (.iconst 1, 1) := by decide +kernel
theorem dX8_init_120 : decode cX8_init 120 = .ok (.new 51, 3) := by decide +kernel
theorem dX8_init_123 : decode cX8_init 123 = .ok (.dup, 1) := by decide +kernel
theorem dX8_init_124 : decode cX8_init 124 = .ok (.invokespecial 53, 3) := by decide +kernel
theorem dX8_init_127 : decode cX8_init 127 = .ok (.aastore, 1) := by decide +kernel
theorem dX8_init_128 : decode cX8_init 128 = .ok (.dup, 1) := by decide +kernel
theorem dX8_init_129 : decode cX8_init 129 = .ok (.iconst 2, 1) := by decide +kernel
theorem dX8_init_130 : decode cX8_init 130 = .ok (.new 51, 3) := by decide +kernel
theorem dX8_init_133 : decode cX8_init 133 = .ok (.dup, 1) := by decide +kernel
theorem dX8_init_134 : decode cX8_init 134 = .ok (.invokespecial 53, 3) := by decide +kernel
theorem dX8_init_137 : decode cX8_init 137 = .ok (.aastore, 1) := by decide +kernel
theorem dX8_init_138 : decode cX8_init 138 = .ok (.dup, 1) := by decide +kernel
theorem dX8_init_139 : decode cX8_init 139 = .ok (.iconst 3, 1) := by decide +kernel
theorem dX8_init_140 : decode cX8_init 140 = .ok (.new 51, 3) := by decide +kernel
theorem dX8_init_143 : decode cX8_init 143 = .ok (.dup, 1) := by decide +kernel
theorem dX8_init_144 : decode cX8_init 144 = .ok (.invokespecial 53, 3) := by decide +kernel
theorem dX8_init_147 : decode cX8_init 147 = .ok (.aastore, 1) := by decide +kernel
theorem dX8_init_148 : decode cX8_init 148 = .ok (.putfield 54, 3) := by decide +kernel
theorem dX8_init_151 : decode cX8_init 151 = .ok (.aload_n 0, 1) := by decide +kernel
theorem dX8_init_152 : decode cX8_init 152 = .ok (.iconst 0, 1) := by decide +kernel
theorem dX8_init_153 : decode cX8_init 153 = .ok (.putfield 58, 3) := by decide +kernel
theorem dX8_init_156 : decode cX8_init 156 = .ok (.return_, 1) := by decide +kernel
theorem dX9_init_0 : decode cX9_init 0 = .ok (.aload_n 0, 1) := by decide +kernel
theorem dX9_init_1 : decode cX9_init 1 = .ok (.invokespecial 1, 3) := by decide +kernel
theorem dX9_init_4 : decode cX9_init 4 = .ok (.aload_n 0, 1) := by decide +kernel
theorem dX9_init_5 : decode cX9_init 5 = .ok (.iconst 3, 1) := by decide +kernel
theorem dX9_init_6 : decode cX9_init 6 = .ok (.newarray .int, 2) := by decide +kernel
theorem dX9_init_8 : decode cX9_init 8 = .ok (.putfield 7, 3) := by decide +kernel
theorem dX9_init_11 : decode cX9_init 11 = .ok (.aload_n 0, 1) := by decide +kernel
theorem dX9_init_12 : decode cX9_init 12 = .ok (.sipush 213, 3) := by decide +kernel
theorem dX9_init_15 : decode cX9_init 15 = .ok (.newarray .int, 2) := by decide +kernel
theorem dX9_init_17 : decode cX9_init 17 = .ok (.putfield 13, 3) := by decide +kernel
theorem dX9_init_20 : decode cX9_init 20 = .ok (.aload_n 0, 1) := by decide +kernel
theorem dX9_init_21 : decode cX9_init 21 = .ok (.bipush 9, 2) := by decide +kernel
theorem dX9_init_23 : decode cX9_init 23 = .ok (.newarray .int, 2) := by decide +kernel
theorem dX9_init_25 : decode cX9_init 25 = .ok (.putfield 16, 3) := by decide +kernel
theorem dX9_init_28 : decode cX9_init 28 = .ok (.aload_n 0, 1) := by decide +kernel
theorem dX9_init_29 : decode cX9_init 29 = .ok (.bipush 9, 2) := by decide +kernel
theorem dX9_init_31 : decode cX9_init 31 = .ok (.newarray .int, 2) := by decide +kernel
theorem dX9_init_33 : decode cX9_init 33 = .ok (.putfield 19, 3) := by decide +kernel
theorem dX9_init_36 : decode cX9_init 36 = .ok (.aload_n 0, 1) := by decide +kernel
theorem dX9_init_37 : decode cX9_init 37 = .ok (.bipush 41, 2) := by decide +kernel
theorem dX9_init_39 : decode cX9_init 39 = .ok (.newarray .int, 2) := by decide +kernel
theorem dX9_init_41 : decode cX9_init 41 = .ok (.putfield 22, 3) := by decide +kernel
theorem dX9_init_44 : decode cX9_init 44 = .ok (.aload_n 0, 1) := by decide +kernel
theorem dX9_init_45 : decode cX9_init 45 = .ok (.bipush 10, 2) := by decide +kernel
theorem dX9_init_47 : decode cX9_init 47 = .ok (.newarray .int, 2) := by decide +kernel
theorem dX9_init_49 : decode cX9_init 49 = .ok (.putfield 25, 3) := by decide +kernel
theorem dX9_init_52 : decode cX9_init 52 = .ok (.aload_n 0, 1) := by decide +kernel
theorem dX9_init_53 : decode cX9_init 53 = .ok (.bipush 10, 2) := by decide +kernel
theorem dX9_init_55 : decode cX9_init 55 = .ok (.newarray .int, 2) := by decide +kernel
theorem dX9_init_57 : decode cX9_init 57 = .ok (.putfield 28, 3) := by decide +kernel
theorem dX9_init_60 : decode cX9_init 60 = .ok (.aload_n 0, 1) := by decide +kernel
theorem dX9_init_61 : decode cX9_init 61 = .ok (.bipush 10, 2) := by decide +kernel
theorem dX9_init_63 : decode cX9_init 63 = .ok (.newarray .int, 2) := by decide +kernel
theorem dX9_init_65 : decode cX9_init 65 = .ok (.putfield 31, 3) := by decide +kernel
theorem dX9_init_68 : decode cX9_init 68 = .ok (.aload_n 0, 1) := by decide +kernel
theorem dX9_init_69 : decode cX9_init 69 = .ok (.bipush 10, 2) := by decide +kernel
theorem dX9_init_71 : decode cX9_init 71 = .ok (.newarray .int, 2) := by decide +kernel
theorem dX9_init_73 : decode cX9_init 73 = .ok (.putfield 34, 3) := by decide +kernel
theorem dX9_init_76 : decode cX9_init 76 = .ok (.aload_n 0, 1) := by decide +kernel
theorem dX9_init_77 : decode cX9_init 77 = .ok (.bipush 10, 2) := by decide +kernel
theorem dX9_init_79 : decode cX9_init 79 = .ok (.newarray .int, 2) := by decide +kernel
theorem dX9_init_81 : decode cX9_init 81 = .ok (.putfield 37, 3) := by decide +kernel
theorem dX9_init_84 : decode cX9_init 84 = .ok (.aload_n 0, 1) := by decide +kernel
theorem dX9_init_85 : decode cX9_init 85 = .ok (.iconst 3, 1) := by decide +kernel
theorem dX9_init_86 : decode cX9_init 86 = .ok (.newarray .int, 2) := by decide +kernel
theorem dX9_init_88 : decode cX9_init 88 = .ok (.putfield 40, 3) := by decide +kernel
theorem dX9_init_91 : decode cX9_init 91 = .ok (.aload_n 0, 1) := by decide +kernel
theorem dX9_init_92 : decode cX9_init 92 = .ok (.bipush 24, 2) := by decide +kernel
theorem dX9_init_94 : decode cX9_init 94 = .ok (.newarray .int, 2) := by decide +kernel
theorem dX9_init_96 : decode cX9_init 96 = .ok (.putfield 43, 3) := by decide +kernel
theorem dX9_init_99 : decode cX9_init 99 = .ok (.aload_n 0, 1) := by decide +kernel
theorem dX9_init_100 : decode cX9_init 100 = .ok (.bipush 24, 2) := by decide +kernel
theorem dX9_init_102 : decode cX9_init 102 = .ok (.newarray .int, 2) := by decide +kernel
theorem dX9_init_104 : decode cX9_init 104 = .ok (.putfield 46, 3) := by decide +kernel
theorem dX9_init_107 : decode cX9_init 107 = .ok (.aload_n 0, 1) := by decide +kernel
theorem dX9_init_108 : decode cX9_init 108 = .ok (.bipush 40, 2) := by decide +kernel
theorem dX9_init_110 : decode cX9_init 110 = .ok (.newarray .boolean, 2) := by decide +kernel
theorem dX9_init_112 : decode cX9_init 112 = .ok (.putfield 49, 3) := by decide +kernel
theorem dX9_init_115 : decode cX9_init 115 = .ok (.aload_n 0, 1) := by decide +kernel
theorem dX9_init_116 : decode cX9_init 116 = .ok (.bipush 8, 2) := by decide +kernel
theorem dX9_init_118 : decode cX9_init 118 = .ok (.newarray .int, 2) := by decide +kernel
theorem dX9_init_120 : decode cX9_init 120 = .ok (.putfield 53, 3) := by decide +kernel
theorem dX9_init_123 : decode cX9_init 123 = .ok (.aload_n 0, 1) := by decide +kernel
theorem dX9_init_124 : decode cX9_init 124 = .ok (.iconst 3, 1) := by decide +kernel
theorem dX9_init_125 : decode cX9_init 125 = .ok (.newarray .int, 2) := by decide +kernel
theorem dX9_init_127 : decode cX9_init 127 = .ok (.putfield 56, 3) := by decide +kernel
theorem dX9_init_130 : decode cX9_init 130 = .ok (.aload_n 0, 1) := by decide +kernel
theorem dX9_init_131 : decode cX9_init 131 = .ok (.bipush 8, 2) := by decide +kernel
theorem dX9_init_133 : decode cX9_init 133 = .ok (.newarray .int, 2) := by decide +kernel
theorem dX9_init_135 : decode cX9_init 135 = .ok (.putfield 59, 3) := by decide +kernel
theorem dX9_init_138 : decode cX9_init 138 = .ok (.aload_n 0, 1) := by decide +kernel
theorem dX9_init_139 : decode cX9_init 139 = .ok (.bipush 8, 2) := by decide +kernel
theorem dX9_init_141 : decode cX9_init 141 = .ok (.newarray .int, 2) := by decide +kernel
theorem dX9_init_143 : decode cX9_init 143 = .ok (.putfield 62, 3) := by decide +kernel
theorem dX9_init_146 : decode cX9_init 146 = .ok (.aload_n 0, 1) := by decide +kernel
theorem dX9_init_147 : decode cX9_init 147 = .ok (.bipush 8, 2) := by decide +kernel
theorem dX9_init_149 : decode cX9_init 149 = .ok (.newarray .int, 2) := by decide +kernel
theorem dX9_init_151 : decode cX9_init 151 = .ok (.putfield 65, 3) := by decide +kernel
theorem dX9_init_154 : decode cX9_init 154 = .ok (.aload_n 0, 1) := by decide +kernel
theorem dX9_init_155 : decode cX9_init 155 = .ok (.iconst 4, 1) := by decide +kernel
theorem dX9_init_156 : decode cX9_init 156 = .ok (.newarray .boolean, 2) := by decide +kernel
theorem dX9_init_158 : decode cX9_init 158 = .ok (.putfield 68, 3) := by decide +kernel
theorem dX9_init_161 : decode cX9_init 161 = .ok (.aload_n 0, 1) := by decide +kernel
theorem dX9_init_162 : decode cX9_init 162 = .ok (.iconst 4, 1) := by decide +kernel
theorem dX9_init_163 : decode cX9_init 163 = .ok (.newarray .int, 2) := by decide +kernel
theorem dX9_init_165 : decode cX9_init 165 = .ok (.putfield 71, 3) := by decide +kernel
theorem dX9_init_168 : decode cX9_init 168 = .ok (.aload_n 0, 1) := by decide +kernel
theorem dX9_init_169 : decode cX9_init 169 = .ok (.iconst 4, 1) := by decide +kernel
theorem dX9_init_170 : decode cX9_init 170 = .ok (.newarray .int, 2) := by decide +kernel
theorem dX9_init_172 : decode cX9_init 172 = .ok (.putfield 74, 3) := by decide +kernel
theorem dX9_init_175 : decode cX9_init 175 = .ok (.aload_n 0, 1) := by decide +kernel
theorem dX9_init_176 : decode cX9_init 176 = .ok (.sipush 192, 3) := by decide +kernel
theorem dX9_init_179 : decode cX9_init 179 = .ok (.newarray .int, 2) := by decide +kernel
theorem dX9_init_181 : decode cX9_init 181 = .ok (.putfield 77, 3) := by decide +kernel
theorem dX9_init_184 : decode cX9_init 184 = .ok (.aload_n 0, 1) := by decide +kernel
theorem dX9_init_185 : decode cX9_init 185 = .ok (.bipush 48, 2) := by decide +kernel
theorem dX9_init_187 : decode cX9_init 187 = .ok (.newarray .int, 2) := by decide +kernel
theorem dX9_init_189 : decode cX9_init 189 = .ok (.putfield 80, 3) := by decide +kernel
theorem dX9_init_192 : decode cX9_init 192 = .ok (.aload_n 0, 1) := by decide +kernel
theorem dX9_init_193 : decode cX9_init 193 = .ok (.bipush 6, 2) := by decide +kernel
theorem dX9_init_195 : decode cX9_init 195 = .ok (.putfield 83, 3) := by decide +kernel
theorem dX9_init_198 : decode cX9_init 198 = .ok (.return_, 1) := by decide +kernel
def xs_0 : fd_X := (0, fun _ => .inl (0, 0, fd_no))
def xs_1 : fd_X := fd_px xs_0 (.inr (8, [none, none, none, none, none, none, none, some (.inr false)]))
def xs_2 : fd_X := fd_px xs_1 (.inl (3, 3, fun _ => none))
def xs_3 : fd_X := fd_px xs_2 (.inr (6, [none, some (.inr false), some (.inr false)]))
def xs_4 : fd_X := fd_px xs_3 (.inr (3, [none]))
def xs_5 : fd_X := fd_px xs_4 (.inl (0, 23, fd_no))
def xs_6 : fd_X := fd_sx xs_5 3 (.inr (3, [some (.inl 4)]))
def xs_7 : fd_X := fd_sx xs_6 2 (.inr (6, [some (.inl 3), some (.inr false), some (.inr false)]))
def rf_1_0 : Nat → Option Nat := fun j => if j = ((0 : Int32)).toNatClampNeg then some 2 else (fun _ => none) j
def xs_8 : fd_X := fd_sx xs_7 1 (.inl (3, 3, rf_1_0))
def xs_9 : fd_X := fd_px xs_8 (.inr (6, [none, some (.inr false), some (.inr false)]))
def xs_10 : fd_X := fd_px xs_9 (.inr (3, [none]))
def xs_11 : fd_X := fd_px xs_10 (.inl (0, 40, fd_no))
def xs_12 : fd_X := fd_sx xs_11 6 (.inr (3, [some (.inl 7)]))
def xs_13 : fd_X := fd_sx xs_12 5 (.inr (6, [some (.inl 6), some (.inr false), some (.inr false)]))
def rf_1_1 : Nat → Option Nat := fun j => if j = ((1 : Int32)).toNatClampNeg then some 5 else rf_1_0 j
def xs_14 : fd_X := fd_sx xs_13 1 (.inl (3, 3, rf_1_1))
def xs_15 : fd_X := fd_px xs_14 (.inr (6, [none, some (.inr false), some (.inr false)]))
def xs_16 : fd_X := fd_px xs_15 (.inr (3, [none]))
def xs_17 : fd_X := fd_px xs_16 (.inl (0, 71, fd_no))
def xs_18 : fd_X := fd_sx xs_17 9 (.inr (3, [some (.inl 10)]))
def xs_19 : fd_X := fd_sx xs_18 8 (.inr (6, [some (.inl 9), some (.inr false), some (.inr false)]))
def rf_1_2 : Nat → Option Nat := fun j => if j = ((2 : Int32)).toNatClampNeg then some 8 else rf_1_1 j
def xs_20 : fd_X := fd_sx xs_19 1 (.inl (3, 3, rf_1_2))
def xs_21 : fd_X := fd_sx xs_20 0 (.inr (8, [some (.inl 1), none, none, none, none, none, none, some (.inr false)]))
def xs_22 : fd_X := fd_px xs_21 (.inr (7, [none, none, none, none, none, some (.inr false), some (.inr false), some (.inr true), none, none, none]))
def xs_23 : fd_X := fd_px xs_22 (.inr (2, [none, none, none, some (.inr false)]))
def xs_24 : fd_X := fd_px xs_23 (.inr (3, [none]))
def xs_25 : fd_X := fd_px xs_24 (.inl (0, 8, fd_no))
def xs_26 : fd_X := fd_sx xs_25 13 (.inr (3, [some (.inl 14)]))
def xs_27 : fd_X := fd_sx xs_26 12 (.inr (2, [some (.inl 13), none, none, some (.inr false)]))
def xs_28 : fd_X := fd_px xs_27 (.inr (3, [none]))
def xs_29 : fd_X := fd_px xs_28 (.inl (0, 8, fd_no))
def xs_30 : fd_X := fd_sx xs_29 15 (.inr (3, [some (.inl 16)]))
def xs_31 : fd_X := fd_sx xs_30 12 (.inr (2, [some (.inl 13), some (.inl 15), none, some (.inr false)]))
def xs_32 : fd_X := fd_px xs_31 (.inr (3, [none]))
def xs_33 : fd_X := fd_px xs_32 (.inl (0, 8, fd_no))
def xs_34 : fd_X := fd_sx xs_33 17 (.inr (3, [some (.inl 18)]))
def xs_35 : fd_X := fd_sx xs_34 12 (.inr (2, [some (.inl 13), some (.inl 15), some (.inl 17), some (.inr false)]))
def xs_36 : fd_X := fd_sx xs_35 11 (.inr (7, [some (.inl 12), none, none, none, none, some (.inr false), some (.inr false), some (.inr true), none, none, none]))
def xs_37 : fd_X := fd_px xs_36 (.inr (1, [none, none, none, some (.inr false)]))
def xs_38 : fd_X := fd_px xs_37 (.inr (3, [none]))
def xs_39 : fd_X := fd_px xs_38 (.inl (0, 8, fd_no))
def xs_40 : fd_X := fd_sx xs_39 20 (.inr (3, [some (.inl 21)]))
def xs_41 : fd_X := fd_sx xs_40 19 (.inr (1, [some (.inl 20), none, none, some (.inr false)]))
def xs_42 : fd_X := fd_px xs_41 (.inr (3, [none]))
def xs_43 : fd_X := fd_px xs_42 (.inl (0, 8, fd_no))
def xs_44 : fd_X := fd_sx xs_43 22 (.inr (3, [some (.inl 23)]))
def xs_45 : fd_X := fd_sx xs_44 19 (.inr (1, [some (.inl 20), some (.inl 22), none, some (.inr false)]))
def xs_46 : fd_X := fd_px xs_45 (.inr (3, [none]))
def xs_47 : fd_X := fd_px xs_46 (.inl (0, 8, fd_no))
def xs_48 : fd_X := fd_sx xs_47 24 (.inr (3, [some (.inl 25)]))
def xs_49 : fd_X := fd_sx xs_48 19 (.inr (1, [some (.inl 20), some (.inl 22), some (.inl 24), some (.inr false)]))
def xs_50 : fd_X := fd_sx xs_49 11 (.inr (7, [some (.inl 12), some (.inl 19), none, none, none, some (.inr false), some (.inr false), some (.inr true), none, none, none]))
def xs_51 : fd_X := fd_px xs_50 (.inr (1, [none, none, none, some (.inr false)]))
def xs_52 : fd_X := fd_px xs_51 (.inr (3, [none]))
def xs_53 : fd_X := fd_px xs_52 (.inl (0, 8, fd_no))
def xs_54 : fd_X := fd_sx xs_53 27 (.inr (3, [some (.inl 28)]))
def xs_55 : fd_X := fd_sx xs_54 26 (.inr (1, [some (.inl 27), none, none, some (.inr false)]))
def xs_56 : fd_X := fd_px xs_55 (.inr (3, [none]))
def xs_57 : fd_X := fd_px xs_56 (.inl (0, 8, fd_no))
def xs_58 : fd_X := fd_sx xs_57 29 (.inr (3, [some (.inl 30)]))
def xs_59 : fd_X := fd_sx xs_58 26 (.inr (1, [some (.inl 27), some (.inl 29), none, some (.inr false)]))
def xs_60 : fd_X := fd_px xs_59 (.inr (3, [none]))
def xs_61 : fd_X := fd_px xs_60 (.inl (0, 8, fd_no))
def xs_62 : fd_X := fd_sx xs_61 31 (.inr (3, [some (.inl 32)]))
def xs_63 : fd_X := fd_sx xs_62 26 (.inr (1, [some (.inl 27), some (.inl 29), some (.inl 31), some (.inr false)]))
def xs_64 : fd_X := fd_sx xs_63 11 (.inr (7, [some (.inl 12), some (.inl 19), some (.inl 26), none, none, some (.inr false), some (.inr false), some (.inr true), none, none, none]))
def xs_65 : fd_X := fd_px xs_64 (.inr (1, [none, none, none, some (.inr false)]))
def xs_66 : fd_X := fd_px xs_65 (.inr (3, [none]))
def xs_67 : fd_X := fd_px xs_66 (.inl (0, 8, fd_no))
def xs_68 : fd_X := fd_sx xs_67 34 (.inr (3, [some (.inl 35)]))
def xs_69 : fd_X := fd_sx xs_68 33 (.inr (1, [some (.inl 34), none, none, some (.inr false)]))
def xs_70 : fd_X := fd_px xs_69 (.inr (3, [none]))
def xs_71 : fd_X := fd_px xs_70 (.inl (0, 8, fd_no))
def xs_72 : fd_X := fd_sx xs_71 36 (.inr (3, [some (.inl 37)]))
def xs_73 : fd_X := fd_sx xs_72 33 (.inr (1, [some (.inl 34), some (.inl 36), none, some (.inr false)]))
def xs_74 : fd_X := fd_px xs_73 (.inr (3, [none]))
def xs_75 : fd_X := fd_px xs_74 (.inl (0, 8, fd_no))
def xs_76 : fd_X := fd_sx xs_75 38 (.inr (3, [some (.inl 39)]))
def xs_77 : fd_X := fd_sx xs_76 33 (.inr (1, [some (.inl 34), some (.inl 36), some (.inl 38), some (.inr false)]))
def xs_78 : fd_X := fd_sx xs_77 11 (.inr (7, [some (.inl 12), some (.inl 19), some (.inl 26), some (.inl 33), none, some (.inr false), some (.inr false), some (.inr true), none, none, none]))
def xs_79 : fd_X := fd_px xs_78 (.inr (3, [none]))
def xs_80 : fd_X := fd_px xs_79 (.inl (0, 40, fd_no))
def xs_81 : fd_X := fd_sx xs_80 40 (.inr (3, [some (.inl 41)]))
def xs_82 : fd_X := fd_sx xs_81 11 (.inr (7, [some (.inl 12), some (.inl 19), some (.inl 26), some (.inl 33), some (.inl 40), some (.inr false), some (.inr false), some (.inr true), none, none, none]))
def xs_83 : fd_X := fd_px xs_82 (.inr (5, [none]))
def xs_84 : fd_X := fd_px xs_83 (.inl (1, 8, fd_no))
def xs_85 : fd_X := fd_sx xs_84 42 (.inr (5, [some (.inl 43)]))
def xs_86 : fd_X := fd_sx xs_85 11 (.inr (7, [some (.inl 12), some (.inl 19), some (.inl 26), some (.inl 33), some (.inl 40), some (.inr false), some (.inr false), some (.inr true), some (.inl 42), none, none]))
def xs_87 : fd_X := fd_px xs_86 (.inr (5, [none]))
def xs_88 : fd_X := fd_px xs_87 (.inl (1, 8, fd_no))
def xs_89 : fd_X := fd_sx xs_88 44 (.inr (5, [some (.inl 45)]))
def xs_90 : fd_X := fd_sx xs_89 11 (.inr (7, [some (.inl 12), some (.inl 19), some (.inl 26), some (.inl 33), some (.inl 40), some (.inr false), some (.inr false), some (.inr true), some (.inl 42), some (.inl 44), none]))
def xs_91 : fd_X := fd_px xs_90 (.inr (5, [none]))
def xs_92 : fd_X := fd_px xs_91 (.inl (1, 8, fd_no))
def xs_93 : fd_X := fd_sx xs_92 46 (.inr (5, [some (.inl 47)]))
def xs_94 : fd_X := fd_sx xs_93 11 (.inr (7, [some (.inl 12), some (.inl 19), some (.inl 26), some (.inl 33), some (.inl 40), some (.inr false), some (.inr false), some (.inr true), some (.inl 42), some (.inl 44), some (.inl 46)]))
def xs_95 : fd_X := fd_sx xs_94 0 (.inr (8, [some (.inl 1), some (.inl 11), none, none, none, none, none, some (.inr false)]))
def xs_96 : fd_X := fd_sx xs_95 0 (.inr (8, [some (.inl 1), some (.inl 11), some (.inl 12), none, none, none, none, some (.inr false)]))
def xs_97 : fd_X := fd_px xs_96 (.inr (0, [none, some (.inr false)]))
def xs_98 : fd_X := fd_px xs_97 (.inr (3, [none]))
def xs_99 : fd_X := fd_px xs_98 (.inl (0, 45, fd_no))
def xs_100 : fd_X := fd_sx xs_99 49 (.inr (3, [some (.inl 50)]))
def xs_101 : fd_X := fd_sx xs_100 48 (.inr (0, [some (.inl 49), some (.inr false)]))
def xs_102 : fd_X := fd_sx xs_101 0 (.inr (8, [some (.inl 1), some (.inl 11), some (.inl 12), some (.inl 48), none, none, none, some (.inr false)]))
def xs_103 : fd_X := fd_px xs_102 (.inr (1, [none, none, none, some (.inr false)]))
def xs_104 : fd_X := fd_px xs_103 (.inr (3, [none]))
def xs_105 : fd_X := fd_px xs_104 (.inl (0, 8, fd_no))
def xs_106 : fd_X := fd_sx xs_105 52 (.inr (3, [some (.inl 53)]))
def xs_107 : fd_X := fd_sx xs_106 51 (.inr (1, [some (.inl 52), none, none, some (.inr false)]))
def xs_108 : fd_X := fd_px xs_107 (.inr (3, [none]))
def xs_109 : fd_X := fd_px xs_108 (.inl (0, 8, fd_no))
def xs_110 : fd_X := fd_sx xs_109 54 (.inr (3, [some (.inl 55)]))
def xs_111 : fd_X := fd_sx xs_110 51 (.inr (1, [some (.inl 52), some (.inl 54), none, some (.inr false)]))
def xs_112 : fd_X := fd_px xs_111 (.inr (3, [none]))
def xs_113 : fd_X := fd_px xs_112 (.inl (0, 8, fd_no))
def xs_114 : fd_X := fd_sx xs_113 56 (.inr (3, [some (.inl 57)]))
def xs_115 : fd_X := fd_sx xs_114 51 (.inr (1, [some (.inl 52), some (.inl 54), some (.inl 56), some (.inr false)]))
def xs_116 : fd_X := fd_sx xs_115 0 (.inr (8, [some (.inl 1), some (.inl 11), some (.inl 12), some (.inl 48), some (.inl 51), none, none, some (.inr false)]))
def xs_117 : fd_X := fd_px xs_116 (.inr (5, [none]))
def xs_118 : fd_X := fd_px xs_117 (.inl (1, 8, fd_no))
def xs_119 : fd_X := fd_sx xs_118 58 (.inr (5, [some (.inl 59)]))
def xs_120 : fd_X := fd_sx xs_119 0 (.inr (8, [some (.inl 1), some (.inl 11), some (.inl 12), some (.inl 48), some (.inl 51), some (.inl 58), none, some (.inr false)]))
def xs_121 : fd_X := fd_px xs_120 (.inl (4, 4, fun _ => none))
def xs_122 : fd_X := fd_px xs_121 (.inr (4, [none, some (.inr false), some (.inr false), some (.inr false)]))
def xs_123 : fd_X := fd_px xs_122 (.inr (3, [none]))
def xs_124 : fd_X := fd_px xs_123 (.inl (0, 48, fd_no))
def xs_125 : fd_X := fd_sx xs_124 62 (.inr (3, [some (.inl 63)]))
def xs_126 : fd_X := fd_sx xs_125 61 (.inr (4, [some (.inl 62), some (.inr false), some (.inr false), some (.inr false)]))
def rf_60_0 : Nat → Option Nat := fun j => if j = ((0 : Int32)).toNatClampNeg then some 61 else (fun _ => none) j
def xs_127 : fd_X := fd_sx xs_126 60 (.inl (4, 4, rf_60_0))
def xs_128 : fd_X := fd_px xs_127 (.inr (4, [none, some (.inr false), some (.inr false), some (.inr false)]))
def xs_129 : fd_X := fd_px xs_128 (.inr (3, [none]))
def xs_130 : fd_X := fd_px xs_129 (.inl (0, 48, fd_no))
def xs_131 : fd_X := fd_sx xs_130 65 (.inr (3, [some (.inl 66)]))
def xs_132 : fd_X := fd_sx xs_131 64 (.inr (4, [some (.inl 65), some (.inr false), some (.inr false), some (.inr false)]))
def rf_60_1 : Nat → Option Nat := fun j => if j = ((1 : Int32)).toNatClampNeg then some 64 else rf_60_0 j
def xs_133 : fd_X := fd_sx xs_132 60 (.inl (4, 4, rf_60_1))
def xs_134 : fd_X := fd_px xs_133 (.inr (4, [none, some (.inr false), some (.inr false), some (.inr false)]))
def xs_135 : fd_X := fd_px xs_134 (.inr (3, [none]))
def xs_136 : fd_X := fd_px xs_135 (.inl (0, 48, fd_no))
def xs_137 : fd_X := fd_sx xs_136 68 (.inr (3, [some (.inl 69)]))
def xs_138 : fd_X := fd_sx xs_137 67 (.inr (4, [some (.inl 68), some (.inr false), some (.inr false), some (.inr false)]))
def rf_60_2 : Nat → Option Nat := fun j => if j = ((2 : Int32)).toNatClampNeg then some 67 else rf_60_1 j
def xs_139 : fd_X := fd_sx xs_138 60 (.inl (4, 4, rf_60_2))
def xs_140 : fd_X := fd_px xs_139 (.inr (4, [none, some (.inr false), some (.inr false), some (.inr false)]))
def xs_141 : fd_X := fd_px xs_140 (.inr (3, [none]))
def xs_142 : fd_X := fd_px xs_141 (.inl (0, 48, fd_no))
def xs_143 : fd_X := fd_sx xs_142 71 (.inr (3, [some (.inl 72)]))
def xs_144 : fd_X := fd_sx xs_143 70 (.inr (4, [some (.inl 71), some (.inr false), some (.inr false), some (.inr false)]))
def rf_60_3 : Nat → Option Nat := fun j => if j = ((3 : Int32)).toNatClampNeg then some 70 else rf_60_2 j
def xs_145 : fd_X := fd_sx xs_144 60 (.inl (4, 4, rf_60_3))
def xs_146 : fd_X := fd_sx xs_145 0 (.inr (8, [some (.inl 1), some (.inl 11), some (.inl 12), some (.inl 48), some (.inl 51), some (.inl 58), some (.inl 60), some (.inr false)]))
def xs_147 : fd_X := fd_px xs_146 (.inr (9, [none, none, some (.inr false), none, none, some (.inr false), none, some (.inr false), none, none, none, none, none, some (.inr false), none, none, none, none, some (.inr false), none, none, some (.inr false), none, none, none, none, none, none, none, none, some (.inr false)]))
def xs_148 : fd_X := fd_px xs_147 (.inl (0, 3, fd_no))
def xs_149 : fd_X := fd_sx xs_148 73 (.inr (9, [some (.inl 74), none, some (.inr false), none, none, some (.inr false), none, some (.inr false), none, none, none, none, none, some (.inr false), none, none, none, none, some (.inr false), none, none, some (.inr false), none, none, none, none, none, none, none, none, some (.inr false)]))
def xs_150 : fd_X := fd_px xs_149 (.inl (0, 213, fd_no))
def xs_151 : fd_X := fd_sx xs_150 73 (.inr (9, [some (.inl 74), some (.inl 75), some (.inr false), none, none, some (.inr false), none, some (.inr false), none, none, none, none, none, some (.inr false), none, none, none, none, some (.inr false), none, none, some (.inr false), none, none, none, none, none, none, none, none, some (.inr false)]))
def xs_152 : fd_X := fd_px xs_151 (.inl (0, 9, fd_no))
def xs_153 : fd_X := fd_sx xs_152 73 (.inr (9, [some (.inl 74), some (.inl 75), some (.inr false), some (.inl 76), none, some (.inr false), none, some (.inr false), none, none, none, none, none, some (.inr false), none, none, none, none, some (.inr false), none, none, some (.inr false), none, none, none, none, none, none, none, none, some (.inr false)]))
def xs_154 : fd_X := fd_px xs_153 (.inl (0, 9, fd_no))
def xs_155 : fd_X := fd_sx xs_154 73 (.inr (9, [some (.inl 74), some (.inl 75), some (.inr false), some (.inl 76), some (.inl 77), some (.inr false), none, some (.inr false), none, none, none, none, none, some (.inr false), none, none, none, none, some (.inr false), none, none, some (.inr false), none, none, none, none, none, none, none, none, some (.inr false)]))
def xs_156 : fd_X := fd_px xs_155 (.inl (0, 41, fd_no))
def xs_157 : fd_X := fd_sx xs_156 73 (.inr (9, [some (.inl 74), some (.inl 75), some (.inr false), some (.inl 76), some (.inl 77), some (.inr false), some (.inl 78), some (.inr false), none, none, none, none, none, some (.inr false), none, none, none, none, some (.inr false), none, none, some (.inr false), none, none, none, none, none, none, none, none, some (.inr false)]))
def xs_158 : fd_X := fd_px xs_157 (.inl (0, 10, fd_no))
def xs_159 : fd_X := fd_sx xs_158 73 (.inr (9, [some (.inl 74), some (.inl 75), some (.inr false), some (.inl 76), some (.inl 77), some (.inr false), some (.inl 78), some (.inr false), some (.inl 79), none, none, none, none, some (.inr false), none, none, none, none, some (.inr false), none, none, some (.inr false), none, none, none, none, none, none, none, none, some (.inr false)]))
def xs_160 : fd_X := fd_px xs_159 (.inl (0, 10, fd_no))
def xs_161 : fd_X := fd_sx xs_160 73 (.inr (9, [some (.inl 74), some (.inl 75), some (.inr false), some (.inl 76), some (.inl 77), some (.inr false), some (.inl 78), some (.inr false), some (.inl 79), some (.inl 80), none, none, none, some (.inr false), none, none, none, none, some (.inr false), none, none, some (.inr false), none, none, none, none, none, none, none, none, some (.inr false)]))
def xs_162 : fd_X := fd_px xs_161 (.inl (0, 10, fd_no))
def xs_163 : fd_X := fd_sx xs_162 73 (.inr (9, [some (.inl 74), some (.inl 75), some (.inr false), some (.inl 76), some (.inl 77), some (.inr false), some (.inl 78), some (.inr false), some (.inl 79), some (.inl 80), some (.inl 81), none, none, some (.inr false), none, none, none, none, some (.inr false), none, none, some (.inr false), none, none, none, none, none, none, none, none, some (.inr false)]))
def xs_164 : fd_X := fd_px xs_163 (.inl (0, 10, fd_no))
def xs_165 : fd_X := fd_sx xs_164 73 (.inr (9, [some (.inl 74), some (.inl 75), some (.inr false), some (.inl 76), some (.inl 77), some (.inr false), some (.inl 78), some (.inr false), some (.inl 79), some (.inl 80), some (.inl 81), some (.inl 82), none, some (.inr false), none, none, none, none, some (.inr false), none, none, some (.inr false), none, none, none, none, none, none, none, none, some (.inr false)]))
def xs_166 : fd_X := fd_px xs_165 (.inl (0, 10, fd_no))
def xs_167 : fd_X := fd_sx xs_166 73 (.inr (9, [some (.inl 74), some (.inl 75), some (.inr false), some (.inl 76), some (.inl 77), some (.inr false), some (.inl 78), some (.inr false), some (.inl 79), some (.inl 80), some (.inl 81), some (.inl 82), some (.inl 83), some (.inr false), none, none, none, none, some (.inr false), none, none, some (.inr false), none, none, none, none, none, none, none, none, some (.inr false)]))
def xs_168 : fd_X := fd_px xs_167 (.inl (0, 3, fd_no))
def xs_169 : fd_X := fd_sx xs_168 73 (.inr (9, [some (.inl 74), some (.inl 75), some (.inr false), some (.inl 76), some (.inl 77), some (.inr false), some (.inl 78), some (.inr false), some (.inl 79), some (.inl 80), some (.inl 81), some (.inl 82), some (.inl 83), some (.inr false), some (.inl 84), none, none, none, some (.inr false), none, none, some (.inr false), none, none, none, none, none, none, none, none, some (.inr false)]))
def xs_170 : fd_X := fd_px xs_169 (.inl (0, 24, fd_no))
def xs_171 : fd_X := fd_sx xs_170 73 (.inr (9, [some (.inl 74), some (.inl 75), some (.inr false), some (.inl 76), some (.inl 77), some (.inr false), some (.inl 78), some (.inr false), some (.inl 79), some (.inl 80), some (.inl 81), some (.inl 82), some (.inl 83), some (.inr false), some (.inl 84), some (.inl 85), none, none, some (.inr false), none, none, some (.inr false), none, none, none, none, none, none, none, none, some (.inr false)]))
def xs_172 : fd_X := fd_px xs_171 (.inl (0, 24, fd_no))
def xs_173 : fd_X := fd_sx xs_172 73 (.inr (9, [some (.inl 74), some (.inl 75), some (.inr false), some (.inl 76), some (.inl 77), some (.inr false), some (.inl 78), some (.inr false), some (.inl 79), some (.inl 80), some (.inl 81), some (.inl 82), some (.inl 83), some (.inr false), some (.inl 84), some (.inl 85), some (.inl 86), none, some (.inr false), none, none, some (.inr false), none, none, none, none, none, none, none, none, some (.inr false)]))
def xs_174 : fd_X := fd_px xs_173 (.inl (2, 40, fd_no))
def xs_175 : fd_X := fd_sx xs_174 73 (.inr (9, [some (.inl 74), some (.inl 75), some (.inr false), some (.inl 76), some (.inl 77), some (.inr false), some (.inl 78), some (.inr false), some (.inl 79), some (.inl 80), some (.inl 81), some (.inl 82), some (.inl 83), some (.inr false), some (.inl 84), some (.inl 85), some (.inl 86), some (.inl 87), some (.inr false), none, none, some (.inr false), none, none, none, none, none, none, none, none, some (.inr false)]))
def xs_176 : fd_X := fd_px xs_175 (.inl (0, 8, fd_no))
def xs_177 : fd_X := fd_sx xs_176 73 (.inr (9, [some (.inl 74), some (.inl 75), some (.inr false), some (.inl 76), some (.inl 77), some (.inr false), some (.inl 78), some (.inr false), some (.inl 79), some (.inl 80), some (.inl 81), some (.inl 82), some (.inl 83), some (.inr false), some (.inl 84), some (.inl 85), some (.inl 86), some (.inl 87), some (.inr false), some (.inl 88), none, some (.inr false), none, none, none, none, none, none, none, none, some (.inr false)]))
def xs_178 : fd_X := fd_px xs_177 (.inl (0, 3, fd_no))
def xs_179 : fd_X := fd_sx xs_178 73 (.inr (9, [some (.inl 74), some (.inl 75), some (.inr false), some (.inl 76), some (.inl 77), some (.inr false), some (.inl 78), some (.inr false), some (.inl 79), some (.inl 80), some (.inl 81), some (.inl 82), some (.inl 83), some (.inr false), some (.inl 84), some (.inl 85), some (.inl 86), some (.inl 87), some (.inr false), some (.inl 88), some (.inl 89), some (.inr false), none, none, none, none, none, none, none, none, some (.inr false)]))
def xs_180 : fd_X := fd_px xs_179 (.inl (0, 8, fd_no))
def xs_181 : fd_X := fd_sx xs_180 73 (.inr (9, [some (.inl 74), some (.inl 75), some (.inr false), some (.inl 76), some (.inl 77), some (.inr false), some (.inl 78), some (.inr false), some (.inl 79), some (.inl 80), some (.inl 81), some (.inl 82), some (.inl 83), some (.inr false), some (.inl 84), some (.inl 85), some (.inl 86), some (.inl 87), some (.inr false), some (.inl 88), some (.inl 89), some (.inr false), some (.inl 90), none, none, none, none, none, none, none, some (.inr false)]))
def xs_182 : fd_X := fd_px xs_181 (.inl (0, 8, fd_no))
def xs_183 : fd_X := fd_sx xs_182 73 (.inr (9, [some (.inl 74), some (.inl 75), some (.inr false), some (.inl 76), some (.inl 77), some (.inr false), some (.inl 78), some (.inr false), some (.inl 79), some (.inl 80), some (.inl 81), some (.inl 82), some (.inl 83), some (.inr false), some (.inl 84), some (.inl 85), some (.inl 86), some (.inl 87), some (.inr false), some (.inl 88), some (.inl 89), some (.inr false), some (.inl 90), some (.inl 91), none, none, none, none, none, none, some (.inr false)]))
def xs_184 : fd_X := fd_px xs_183 (.inl (0, 8, fd_no))
def xs_185 : fd_X := fd_sx xs_184 73 (.inr (9, [some (.inl 74), some (.inl 75), some (.inr false), some (.inl 76), some (.inl 77), some (.inr false), some (.inl 78), some (.inr false), some (.inl 79), some (.inl 80), some (.inl 81), some (.inl 82), some (.inl 83), some (.inr false), some (.inl 84), some (.inl 85), some (.inl 86), some (.inl 87), some (.inr false), some (.inl 88), some (.inl 89), some (.inr false), some (.inl 90), some (.inl 91), some (.inl 92), none, none, none, none, none, some (.inr false)]))
def xs_186 : fd_X := fd_px xs_185 (.inl (2, 4, fd_no))
def xs_187 : fd_X := fd_sx xs_186 73 (.inr (9, [some (.inl 74), some (.inl 75), some (.inr false), some (.inl 76), some (.inl 77), some (.inr false), some (.inl 78), some (.inr false), some (.inl 79), some (.inl 80), some (.inl 81), some (.inl 82), some (.inl 83), some (.inr false), some (.inl 84), some (.inl 85), some (.inl 86), some (.inl 87), some (.inr false), some (.inl 88), some (.inl 89), some (.inr false), some (.inl 90), some (.inl 91), some (.inl 92), some (.inl 93), none, none, none, none, some (.inr false)]))
def xs_188 : fd_X := fd_px xs_187 (.inl (0, 4, fd_no))
def xs_189 : fd_X := fd_sx xs_188 73 (.inr (9, [some (.inl 74), some (.inl 75), some (.inr false), some (.inl 76), some (.inl 77), some (.inr false), some (.inl 78), some (.inr false), some (.inl 79), some (.inl 80), some (.inl 81), some (.inl 82), some (.inl 83), some (.inr false), some (.inl 84), some (.inl 85), some (.inl 86), some (.inl 87), some (.inr false), some (.inl 88), some (.inl 89), some (.inr false), some (.inl 90), some (.inl 91), some (.inl 92), some (.inl 93), some (.inl 94), none, none, none, some (.inr false)]))
def xs_190 : fd_X := fd_px xs_189 (.inl (0, 4, fd_no))
def xs_191 : fd_X := fd_sx xs_190 73 (.inr (9, [some (.inl 74), some (.inl 75), some (.inr false), some (.inl 76), some (.inl 77), some (.inr false), some (.inl 78), some (.inr false), some (.inl 79), some (.inl 80), some (.inl 81), some (.inl 82), some (.inl 83), some (.inr false), some (.inl 84), some (.inl 85), some (.inl 86), some (.inl 87), some (.inr false), some (.inl 88), some (.inl 89), some (.inr false), some (.inl 90), some (.inl 91), some (.inl 92), some (.inl 93), some (.inl 94), some (.inl 95), none, none, some (.inr false)]))
def xs_192 : fd_X := fd_px xs_191 (.inl (0, 192, fd_no))
def xs_193 : fd_X := fd_sx xs_192 73 (.inr (9, [some (.inl 74), some (.inl 75), some (.inr false), some (.inl 76), some (.inl 77), some (.inr false), some (.inl 78), some (.inr false), some (.inl 79), some (.inl 80), some (.inl 81), some (.inl 82), some (.inl 83), some (.inr false), some (.inl 84), some (.inl 85), some (.inl 86), some (.inl 87), some (.inr false), some (.inl 88), some (.inl 89), some (.inr false), some (.inl 90), some (.inl 91), some (.inl 92), some (.inl 93), some (.inl 94), some (.inl 95), some (.inl 96), none, some (.inr false)]))
def xs_194 : fd_X := fd_px xs_193 (.inl (0, 48, fd_no))
def xs_195 : fd_X := fd_sx xs_194 73 (.inr (9, [some (.inl 74), some (.inl 75), some (.inr false), some (.inl 76), some (.inl 77), some (.inr false), some (.inl 78), some (.inr false), some (.inl 79), some (.inl 80), some (.inl 81), some (.inl 82), some (.inl 83), some (.inr false), some (.inl 84), some (.inl 85), some (.inl 86), some (.inl 87), some (.inr false), some (.inl 88), some (.inl 89), some (.inr false), some (.inl 90), some (.inl 91), some (.inl 92), some (.inl 93), some (.inl 94), some (.inl 95), some (.inl 96), some (.inl 97), some (.inr false)]))
def hs_0 : fd_H := (fun _ _ => 0, fun _ _ => 0)
def hs_1 : fd_H := fd_ui hs_0 2 2 (0 : Int32)
def hs_2 : fd_H := fd_ui hs_1 2 1 (23 : Int32)
def hs_3 : fd_H := fd_ui hs_2 5 2 (0 : Int32)
def hs_4 : fd_H := fd_ui hs_3 5 1 (40 : Int32)
def hs_5 : fd_H := fd_ui hs_4 8 2 (0 : Int32)
def hs_6 : fd_H := fd_ui hs_5 8 1 (71 : Int32)
def hs_7 : fd_H := fd_ui hs_6 12 3 (0 : Int32)
def hs_8 : fd_H := fd_ui hs_7 19 3 (0 : Int32)
def hs_9 : fd_H := fd_ui hs_8 26 3 (0 : Int32)
def hs_10 : fd_H := fd_ui hs_9 33 3 (0 : Int32)
def hs_11 : fd_H := fd_ui hs_10 11 5 (0 : Int32)
def hs_12 : fd_H := fd_ui hs_11 11 6 (6 : Int32)
def hs_13 : fd_H := fd_ul hs_12 11 7 (0 : Int64)
def hs_14 : fd_H := fd_ui hs_13 48 1 (0 : Int32)
def hs_15 : fd_H := fd_ui hs_14 51 3 (0 : Int32)
def hs_16 : fd_H := fd_ui hs_15 61 1 (fd_b true)
def hs_17 : fd_H := fd_ui hs_16 61 2 (0 : Int32)
def hs_18 : fd_H := fd_ui hs_17 61 3 (0 : Int32)
def hs_19 : fd_H := fd_ui hs_18 64 1 (fd_b true)
def hs_20 : fd_H := fd_ui hs_19 64 2 (0 : Int32)
def hs_21 : fd_H := fd_ui hs_20 64 3 (0 : Int32)
def hs_22 : fd_H := fd_ui hs_21 67 1 (fd_b true)
def hs_23 : fd_H := fd_ui hs_22 67 2 (0 : Int32)
def hs_24 : fd_H := fd_ui hs_23 67 3 (0 : Int32)
def hs_25 : fd_H := fd_ui hs_24 70 1 (fd_b true)
def hs_26 : fd_H := fd_ui hs_25 70 2 (0 : Int32)
def hs_27 : fd_H := fd_ui hs_26 70 3 (0 : Int32)
def hs_28 : fd_H := fd_ui hs_27 0 7 (0 : Int32)
def hs_29 : fd_H := fd_ui hs_28 73 13 (6 : Int32)
set_option maxRecDepth 100000 in
set_option maxHeartbeats 4000000 in
theorem iX3_init_3 {g : fd_G} : fd_S g mX3_init 2 [.ref (g.2.2.2 + 3), .int (23 : Int32)] xs_4 hs_2 none xs_6 hs_2 1 23 := by
  refine fd_S.of (by decide +kernel) (Nat.le_of_ble_eq_true rfl) ?_
  refine fr_loc (lv' := [(0, .ref (g.2.2.2 + 3)), (1, .int (23 : Int32))]) [0, 1] rfl ?_
  refine fr_aload_n (pc := 0) dX3_init_0 0 rfl rfl ?_
  refine fr_objInit (pc := 1) dX3_init_1 kw_719 (Nat.le_of_ble_eq_true rfl) (Nat.le_of_ble_eq_true rfl) ?_
  refine fr_aload_n (pc := 4) dX3_init_4 0 rfl rfl ?_
  refine fr_iconst (pc := 5) (v := (0 : Int32)) dX3_init_5 (by decide) ?_
  refine fr_iload_n (pc := 6) dX3_init_6 1 rfl rfl ?_
  refine fr_max (pc := 7) dX3_init_7 kw_720 (Nat.le_of_ble_eq_true rfl) (Nat.le_of_ble_eq_true rfl) (Nat.le_of_ble_eq_true rfl) (Nat.le_of_ble_eq_true rfl) ?_
  refine fr_nmi (y := (23 : Int32)) (by decide) ?_
  refine fr_newI (pc := 10) (n := 23) dX3_init_10 rfl (by decide) (by decide) (by decide) ⟨Nat.le_of_ble_eq_true rfl, Nat.le_of_ble_eq_true rfl⟩ (show xs_5 = _ from rfl) ?_
  refine fr_putR (pc := 12) dX3_init_12 fl_X3_13 ft_X3_0 ⟨rfl, rfl⟩ (fun _ => rfl) (fun _ => rfl) (by decide) rfl (by decide) (show xs_6 = _ from rfl) ?_
  exact fr_vret (X' := xs_0) (h' := hs_0) (pc := 15) dX3_init_15 rfl
set_option maxRecDepth 100000 in
set_option maxHeartbeats 4000000 in
theorem iX6_init_2 {g : fd_G} : fd_S g mX6_init 3 [.ref (g.2.2.2 + 2), .int (23 : Int32)] xs_3 hs_0 none xs_7 hs_2 2 24 := by
  refine fd_S.of (by decide +kernel) (Nat.le_of_ble_eq_true rfl) ?_
  refine fr_loc (lv' := [(0, .ref (g.2.2.2 + 2)), (1, .int (23 : Int32))]) [0, 1] rfl ?_
  refine fr_aload_n (pc := 0) dX6_init_0 0 rfl rfl ?_
  refine fr_objInit (pc := 1) dX6_init_1 kw_716 (Nat.le_of_ble_eq_true rfl) (Nat.le_of_ble_eq_true rfl) ?_
  refine fr_aload_n (pc := 4) dX6_init_4 0 rfl rfl ?_
  refine fr_iconst (pc := 5) (v := (0 : Int32)) dX6_init_5 (by decide) ?_
  refine fr_putIc false (pc := 6) dX6_init_6 fl_X6_7 ft_X6_2 ⟨rfl, rfl⟩ (by decide) rfl rfl (show hs_1 = _ from rfl) ?_
  refine fr_aload_n (pc := 9) dX6_init_9 0 rfl rfl ?_
  refine fr_iload_n (pc := 10) dX6_init_10 1 rfl rfl ?_
  refine fr_putIc true (pc := 11) dX6_init_11 fl_X6_13 ft_X6_1 ⟨rfl, rfl⟩ (by decide) rfl rfl (show hs_2 = _ from rfl) ?_
  refine fr_aload_n (pc := 14) dX6_init_14 0 rfl rfl ?_
  refine fr_new (pc := 15) (ty := tyX3) dX6_init_15 rfl inX3 tyX3_ok kw_717 kw_718 kw_49 rfl rfl df_X3 ⟨Nat.le_of_ble_eq_true rfl, Nat.le_of_ble_eq_true rfl⟩ (show xs_4 = _ from rfl) ?_
  refine fr_dup (pc := 18) dX6_init_18 rfl ?_
  refine fr_iload_n (pc := 19) dX6_init_19 1 rfl rfl ?_
  refine fr_callC (pc := 20) (av := [.int (23 : Int32)]) (mc := 1) (ms := 23) dX6_init_20 yy_X3_init (Or.inl kw_721) rfl rfl (Nat.le_of_ble_eq_true rfl) ⟨Nat.le_of_ble_eq_true rfl, Nat.le_of_ble_eq_true rfl, Nat.le_of_ble_eq_true rfl, Nat.le_of_ble_eq_true rfl⟩ iX3_init_3 ?_
  refine fr_putR (pc := 23) dX6_init_23 fl_X6_21 ft_X6_0 ⟨rfl, rfl⟩ (fun _ => rfl) (fun _ => rfl) (by decide) rfl (by decide) (show xs_7 = _ from rfl) ?_
  exact fr_vret (X' := xs_0) (h' := hs_0) (pc := 26) dX6_init_26 rfl
set_option maxRecDepth 100000 in
set_option maxHeartbeats 4000000 in
theorem iX3_init_6 {g : fd_G} : fd_S g mX3_init 2 [.ref (g.2.2.2 + 6), .int (40 : Int32)] xs_10 hs_4 none xs_12 hs_4 1 40 := by
  refine fd_S.of (by decide +kernel) (Nat.le_of_ble_eq_true rfl) ?_
  refine fr_loc (lv' := [(0, .ref (g.2.2.2 + 6)), (1, .int (40 : Int32))]) [0, 1] rfl ?_
  refine fr_aload_n (pc := 0) dX3_init_0 0 rfl rfl ?_
  refine fr_objInit (pc := 1) dX3_init_1 kw_719 (Nat.le_of_ble_eq_true rfl) (Nat.le_of_ble_eq_true rfl) ?_
  refine fr_aload_n (pc := 4) dX3_init_4 0 rfl rfl ?_
  refine fr_iconst (pc := 5) (v := (0 : Int32)) dX3_init_5 (by decide) ?_
  refine fr_iload_n (pc := 6) dX3_init_6 1 rfl rfl ?_
  refine fr_max (pc := 7) dX3_init_7 kw_720 (Nat.le_of_ble_eq_true rfl) (Nat.le_of_ble_eq_true rfl) (Nat.le_of_ble_eq_true rfl) (Nat.le_of_ble_eq_true rfl) ?_
  refine fr_nmi (y := (40 : Int32)) (by decide) ?_
  refine fr_newI (pc := 10) (n := 40) dX3_init_10 rfl (by decide) (by decide) (by decide) ⟨Nat.le_of_ble_eq_true rfl, Nat.le_of_ble_eq_true rfl⟩ (show xs_11 = _ from rfl) ?_
  refine fr_putR (pc := 12) dX3_init_12 fl_X3_13 ft_X3_0 ⟨rfl, rfl⟩ (fun _ => rfl) (fun _ => rfl) (by decide) rfl (by decide) (show xs_12 = _ from rfl) ?_
  exact fr_vret (X' := xs_0) (h' := hs_0) (pc := 15) dX3_init_15 rfl
set_option maxRecDepth 100000 in
set_option maxHeartbeats 4000000 in
theorem iX6_init_5 {g : fd_G} : fd_S g mX6_init 3 [.ref (g.2.2.2 + 5), .int (40 : Int32)] xs_9 hs_2 none xs_13 hs_4 2 41 := by
  refine fd_S.of (by decide +kernel) (Nat.le_of_ble_eq_true rfl) ?_
  refine fr_loc (lv' := [(0, .ref (g.2.2.2 + 5)), (1, .int (40 : Int32))]) [0, 1] rfl ?_
  refine fr_aload_n (pc := 0) dX6_init_0 0 rfl rfl ?_
  refine fr_objInit (pc := 1) dX6_init_1 kw_716 (Nat.le_of_ble_eq_true rfl) (Nat.le_of_ble_eq_true rfl) ?_
  refine fr_aload_n (pc := 4) dX6_init_4 0 rfl rfl ?_
  refine fr_iconst (pc := 5) (v := (0 : Int32)) dX6_init_5 (by decide) ?_
  refine fr_putIc false (pc := 6) dX6_init_6 fl_X6_7 ft_X6_2 ⟨rfl, rfl⟩ (by decide) rfl rfl (show hs_3 = _ from rfl) ?_
  refine fr_aload_n (pc := 9) dX6_init_9 0 rfl rfl ?_
  refine fr_iload_n (pc := 10) dX6_init_10 1 rfl rfl ?_
  refine fr_putIc true (pc := 11) dX6_init_11 fl_X6_13 ft_X6_1 ⟨rfl, rfl⟩ (by decide) rfl rfl (show hs_4 = _ from rfl) ?_
  refine fr_aload_n (pc := 14) dX6_init_14 0 rfl rfl ?_
  refine fr_new (pc := 15) (ty := tyX3) dX6_init_15 rfl inX3 tyX3_ok kw_717 kw_718 kw_49 rfl rfl df_X3 ⟨Nat.le_of_ble_eq_true rfl, Nat.le_of_ble_eq_true rfl⟩ (show xs_10 = _ from rfl) ?_
  refine fr_dup (pc := 18) dX6_init_18 rfl ?_
  refine fr_iload_n (pc := 19) dX6_init_19 1 rfl rfl ?_
  refine fr_callC (pc := 20) (av := [.int (40 : Int32)]) (mc := 1) (ms := 40) dX6_init_20 yy_X3_init (Or.inl kw_721) rfl rfl (Nat.le_of_ble_eq_true rfl) ⟨Nat.le_of_ble_eq_true rfl, Nat.le_of_ble_eq_true rfl, Nat.le_of_ble_eq_true rfl, Nat.le_of_ble_eq_true rfl⟩ iX3_init_6 ?_
  refine fr_putR (pc := 23) dX6_init_23 fl_X6_21 ft_X6_0 ⟨rfl, rfl⟩ (fun _ => rfl) (fun _ => rfl) (by decide) rfl (by decide) (show xs_13 = _ from rfl) ?_
  exact fr_vret (X' := xs_0) (h' := hs_0) (pc := 26) dX6_init_26 rfl
set_option maxRecDepth 100000 in
set_option maxHeartbeats 4000000 in
theorem iX3_init_9 {g : fd_G} : fd_S g mX3_init 2 [.ref (g.2.2.2 + 9), .int (71 : Int32)] xs_16 hs_6 none xs_18 hs_6 1 71 := by
  refine fd_S.of (by decide +kernel) (Nat.le_of_ble_eq_true rfl) ?_
  refine fr_loc (lv' := [(0, .ref (g.2.2.2 + 9)), (1, .int (71 : Int32))]) [0, 1] rfl ?_
  refine fr_aload_n (pc := 0) dX3_init_0 0 rfl rfl ?_
  refine fr_objInit (pc := 1) dX3_init_1 kw_719 (Nat.le_of_ble_eq_true rfl) (Nat.le_of_ble_eq_true rfl) ?_
  refine fr_aload_n (pc := 4) dX3_init_4 0 rfl rfl ?_
  refine fr_iconst (pc := 5) (v := (0 : Int32)) dX3_init_5 (by decide) ?_
  refine fr_iload_n (pc := 6) dX3_init_6 1 rfl rfl ?_
  refine fr_max (pc := 7) dX3_init_7 kw_720 (Nat.le_of_ble_eq_true rfl) (Nat.le_of_ble_eq_true rfl) (Nat.le_of_ble_eq_true rfl) (Nat.le_of_ble_eq_true rfl) ?_
  refine fr_nmi (y := (71 : Int32)) (by decide) ?_
  refine fr_newI (pc := 10) (n := 71) dX3_init_10 rfl (by decide) (by decide) (by decide) ⟨Nat.le_of_ble_eq_true rfl, Nat.le_of_ble_eq_true rfl⟩ (show xs_17 = _ from rfl) ?_
  refine fr_putR (pc := 12) dX3_init_12 fl_X3_13 ft_X3_0 ⟨rfl, rfl⟩ (fun _ => rfl) (fun _ => rfl) (by decide) rfl (by decide) (show xs_18 = _ from rfl) ?_
  exact fr_vret (X' := xs_0) (h' := hs_0) (pc := 15) dX3_init_15 rfl
set_option maxRecDepth 100000 in
set_option maxHeartbeats 4000000 in
theorem iX6_init_8 {g : fd_G} : fd_S g mX6_init 3 [.ref (g.2.2.2 + 8), .int (71 : Int32)] xs_15 hs_4 none xs_19 hs_6 2 72 := by
  refine fd_S.of (by decide +kernel) (Nat.le_of_ble_eq_true rfl) ?_
  refine fr_loc (lv' := [(0, .ref (g.2.2.2 + 8)), (1, .int (71 : Int32))]) [0, 1] rfl ?_
  refine fr_aload_n (pc := 0) dX6_init_0 0 rfl rfl ?_
  refine fr_objInit (pc := 1) dX6_init_1 kw_716 (Nat.le_of_ble_eq_true rfl) (Nat.le_of_ble_eq_true rfl) ?_
  refine fr_aload_n (pc := 4) dX6_init_4 0 rfl rfl ?_
  refine fr_iconst (pc := 5) (v := (0 : Int32)) dX6_init_5 (by decide) ?_
  refine fr_putIc false (pc := 6) dX6_init_6 fl_X6_7 ft_X6_2 ⟨rfl, rfl⟩ (by decide) rfl rfl (show hs_5 = _ from rfl) ?_
  refine fr_aload_n (pc := 9) dX6_init_9 0 rfl rfl ?_
  refine fr_iload_n (pc := 10) dX6_init_10 1 rfl rfl ?_
  refine fr_putIc true (pc := 11) dX6_init_11 fl_X6_13 ft_X6_1 ⟨rfl, rfl⟩ (by decide) rfl rfl (show hs_6 = _ from rfl) ?_
  refine fr_aload_n (pc := 14) dX6_init_14 0 rfl rfl ?_
  refine fr_new (pc := 15) (ty := tyX3) dX6_init_15 rfl inX3 tyX3_ok kw_717 kw_718 kw_49 rfl rfl df_X3 ⟨Nat.le_of_ble_eq_true rfl, Nat.le_of_ble_eq_true rfl⟩ (show xs_16 = _ from rfl) ?_
  refine fr_dup (pc := 18) dX6_init_18 rfl ?_
  refine fr_iload_n (pc := 19) dX6_init_19 1 rfl rfl ?_
  refine fr_callC (pc := 20) (av := [.int (71 : Int32)]) (mc := 1) (ms := 71) dX6_init_20 yy_X3_init (Or.inl kw_721) rfl rfl (Nat.le_of_ble_eq_true rfl) ⟨Nat.le_of_ble_eq_true rfl, Nat.le_of_ble_eq_true rfl, Nat.le_of_ble_eq_true rfl, Nat.le_of_ble_eq_true rfl⟩ iX3_init_9 ?_
  refine fr_putR (pc := 23) dX6_init_23 fl_X6_21 ft_X6_0 ⟨rfl, rfl⟩ (fun _ => rfl) (fun _ => rfl) (by decide) rfl (by decide) (show xs_19 = _ from rfl) ?_
  exact fr_vret (X' := xs_0) (h' := hs_0) (pc := 26) dX6_init_26 rfl
set_option maxRecDepth 100000 in
set_option maxHeartbeats 4000000 in
theorem iX3_init_13 {g : fd_G} : fd_S g mX3_init 2 [.ref (g.2.2.2 + 13), .int (8 : Int32)] xs_24 hs_6 none xs_26 hs_6 1 8 := by
  refine fd_S.of (by decide +kernel) (Nat.le_of_ble_eq_true rfl) ?_
  refine fr_loc (lv' := [(0, .ref (g.2.2.2 + 13)), (1, .int (8 : Int32))]) [0, 1] rfl ?_
  refine fr_aload_n (pc := 0) dX3_init_0 0 rfl rfl ?_
  refine fr_objInit (pc := 1) dX3_init_1 kw_719 (Nat.le_of_ble_eq_true rfl) (Nat.le_of_ble_eq_true rfl) ?_
  refine fr_aload_n (pc := 4) dX3_init_4 0 rfl rfl ?_
  refine fr_iconst (pc := 5) (v := (0 : Int32)) dX3_init_5 (by decide) ?_
  refine fr_iload_n (pc := 6) dX3_init_6 1 rfl rfl ?_
  refine fr_max (pc := 7) dX3_init_7 kw_720 (Nat.le_of_ble_eq_true rfl) (Nat.le_of_ble_eq_true rfl) (Nat.le_of_ble_eq_true rfl) (Nat.le_of_ble_eq_true rfl) ?_
  refine fr_nmi (y := (8 : Int32)) (by decide) ?_
  refine fr_newI (pc := 10) (n := 8) dX3_init_10 rfl (by decide) (by decide) (by decide) ⟨Nat.le_of_ble_eq_true rfl, Nat.le_of_ble_eq_true rfl⟩ (show xs_25 = _ from rfl) ?_
  refine fr_putR (pc := 12) dX3_init_12 fl_X3_13 ft_X3_0 ⟨rfl, rfl⟩ (fun _ => rfl) (fun _ => rfl) (by decide) rfl (by decide) (show xs_26 = _ from rfl) ?_
  exact fr_vret (X' := xs_0) (h' := hs_0) (pc := 15) dX3_init_15 rfl
set_option maxRecDepth 100000 in
set_option maxHeartbeats 4000000 in
theorem iX3_init_15 {g : fd_G} : fd_S g mX3_init 2 [.ref (g.2.2.2 + 15), .int (8 : Int32)] xs_28 hs_6 none xs_30 hs_6 1 8 := by
  refine fd_S.of (by decide +kernel) (Nat.le_of_ble_eq_true rfl) ?_
  refine fr_loc (lv' := [(0, .ref (g.2.2.2 + 15)), (1, .int (8 : Int32))]) [0, 1] rfl ?_
  refine fr_aload_n (pc := 0) dX3_init_0 0 rfl rfl ?_
  refine fr_objInit (pc := 1) dX3_init_1 kw_719 (Nat.le_of_ble_eq_true rfl) (Nat.le_of_ble_eq_true rfl) ?_
  refine fr_aload_n (pc := 4) dX3_init_4 0 rfl rfl ?_
  refine fr_iconst (pc := 5) (v := (0 : Int32)) dX3_init_5 (by decide) ?_
  refine fr_iload_n (pc := 6) dX3_init_6 1 rfl rfl ?_
  refine fr_max (pc := 7) dX3_init_7 kw_720 (Nat.le_of_ble_eq_true rfl) (Nat.le_of_ble_eq_true rfl) (Nat.le_of_ble_eq_true rfl) (Nat.le_of_ble_eq_true rfl) ?_
  refine fr_nmi (y := (8 : Int32)) (by decide) ?_
  refine fr_newI (pc := 10) (n := 8) dX3_init_10 rfl (by decide) (by decide) (by decide) ⟨Nat.le_of_ble_eq_true rfl, Nat.le_of_ble_eq_true rfl⟩ (show xs_29 = _ from rfl) ?_
  refine fr_putR (pc := 12) dX3_init_12 fl_X3_13 ft_X3_0 ⟨rfl, rfl⟩ (fun _ => rfl) (fun _ => rfl) (by decide) rfl (by decide) (show xs_30 = _ from rfl) ?_
  exact fr_vret (X' := xs_0) (h' := hs_0) (pc := 15) dX3_init_15 rfl
set_option maxRecDepth 100000 in
set_option maxHeartbeats 4000000 in
theorem iX3_init_17 {g : fd_G} : fd_S g mX3_init 2 [.ref (g.2.2.2 + 17), .int (8 : Int32)] xs_32 hs_6 none xs_34 hs_6 1 8 := by
  refine fd_S.of (by decide +kernel) (Nat.le_of_ble_eq_true rfl) ?_
  refine fr_loc (lv' := [(0, .ref (g.2.2.2 + 17)), (1, .int (8 : Int32))]) [0, 1] rfl ?_
  refine fr_aload_n (pc := 0) dX3_init_0 0 rfl rfl ?_
  refine fr_objInit (pc := 1) dX3_init_1 kw_719 (Nat.le_of_ble_eq_true rfl) (Nat.le_of_ble_eq_true rfl) ?_
  refine fr_aload_n (pc := 4) dX3_init_4 0 rfl rfl ?_
  refine fr_iconst (pc := 5) (v := (0 : Int32)) dX3_init_5 (by decide) ?_
  refine fr_iload_n (pc := 6) dX3_init_6 1 rfl rfl ?_
  refine fr_max (pc := 7) dX3_init_7 kw_720 (Nat.le_of_ble_eq_true rfl) (Nat.le_of_ble_eq_true rfl) (Nat.le_of_ble_eq_true rfl) (Nat.le_of_ble_eq_true rfl) ?_
  refine fr_nmi (y := (8 : Int32)) (by decide) ?_
  refine fr_newI (pc := 10) (n := 8) dX3_init_10 rfl (by decide) (by decide) (by decide) ⟨Nat.le_of_ble_eq_true rfl, Nat.le_of_ble_eq_true rfl⟩ (show xs_33 = _ from rfl) ?_
  refine fr_putR (pc := 12) dX3_init_12 fl_X3_13 ft_X3_0 ⟨rfl, rfl⟩ (fun _ => rfl) (fun _ => rfl) (by decide) rfl (by decide) (show xs_34 = _ from rfl) ?_
  exact fr_vret (X' := xs_0) (h' := hs_0) (pc := 15) dX3_init_15 rfl
set_option maxRecDepth 100000 in
set_option maxHeartbeats 4000000 in
theorem iX2_init_12 {g : fd_G} : fd_S g mX2_init 3 [.ref (g.2.2.2 + 12)] xs_23 hs_6 none xs_35 hs_7 6 27 := by
  refine fd_S.of (by decide +kernel) (Nat.le_of_ble_eq_true rfl) ?_
  refine fr_loc (lv' := [(0, .ref (g.2.2.2 + 12))]) [0] rfl ?_
  refine fr_aload_n (pc := 0) dX2_init_0 0 rfl rfl ?_
  refine fr_objInit (pc := 1) dX2_init_1 kw_732 (Nat.le_of_ble_eq_true rfl) (Nat.le_of_ble_eq_true rfl) ?_
  refine fr_aload_n (pc := 4) dX2_init_4 0 rfl rfl ?_
  refine fr_new (pc := 5) (ty := tyX3) dX2_init_5 rfl inX3 tyX3_ok kw_733 kw_718 kw_49 rfl rfl df_X3 ⟨Nat.le_of_ble_eq_true rfl, Nat.le_of_ble_eq_true rfl⟩ (show xs_24 = _ from rfl) ?_
  refine fr_dup (pc := 8) dX2_init_8 rfl ?_
  refine fr_bipush (pc := 9) (v := (8 : Int32)) dX2_init_9 (by decide) ?_
  refine fr_callC (pc := 11) (av := [.int (8 : Int32)]) (mc := 1) (ms := 8) dX2_init_11 yy_X3_init (Or.inl kw_734) rfl rfl (Nat.le_of_ble_eq_true rfl) ⟨Nat.le_of_ble_eq_true rfl, Nat.le_of_ble_eq_true rfl, Nat.le_of_ble_eq_true rfl, Nat.le_of_ble_eq_true rfl⟩ iX3_init_13 ?_
  refine fr_putR (pc := 14) dX2_init_14 fl_X2_14 ft_X2_0 ⟨rfl, rfl⟩ (fun _ => rfl) (fun _ => rfl) (by decide) rfl (by decide) (show xs_27 = _ from rfl) ?_
  refine fr_aload_n (pc := 17) dX2_init_17 0 rfl rfl ?_
  refine fr_new (pc := 18) (ty := tyX3) dX2_init_18 rfl inX3 tyX3_ok kw_733 kw_718 kw_49 rfl rfl df_X3 ⟨Nat.le_of_ble_eq_true rfl, Nat.le_of_ble_eq_true rfl⟩ (show xs_28 = _ from rfl) ?_
  refine fr_dup (pc := 21) dX2_init_21 rfl ?_
  refine fr_bipush (pc := 22) (v := (8 : Int32)) dX2_init_22 (by decide) ?_
  refine fr_callC (pc := 24) (av := [.int (8 : Int32)]) (mc := 1) (ms := 8) dX2_init_24 yy_X3_init (Or.inl kw_734) rfl rfl (Nat.le_of_ble_eq_true rfl) ⟨Nat.le_of_ble_eq_true rfl, Nat.le_of_ble_eq_true rfl, Nat.le_of_ble_eq_true rfl, Nat.le_of_ble_eq_true rfl⟩ iX3_init_15 ?_
  refine fr_putR (pc := 27) dX2_init_27 fl_X2_20 ft_X2_1 ⟨rfl, rfl⟩ (fun _ => rfl) (fun _ => rfl) (by decide) rfl (by decide) (show xs_31 = _ from rfl) ?_
  refine fr_aload_n (pc := 30) dX2_init_30 0 rfl rfl ?_
  refine fr_new (pc := 31) (ty := tyX3) dX2_init_31 rfl inX3 tyX3_ok kw_733 kw_718 kw_49 rfl rfl df_X3 ⟨Nat.le_of_ble_eq_true rfl, Nat.le_of_ble_eq_true rfl⟩ (show xs_32 = _ from rfl) ?_
  refine fr_dup (pc := 34) dX2_init_34 rfl ?_
  refine fr_bipush (pc := 35) (v := (8 : Int32)) dX2_init_35 (by decide) ?_
  refine fr_callC (pc := 37) (av := [.int (8 : Int32)]) (mc := 1) (ms := 8) dX2_init_37 yy_X3_init (Or.inl kw_734) rfl rfl (Nat.le_of_ble_eq_true rfl) ⟨Nat.le_of_ble_eq_true rfl, Nat.le_of_ble_eq_true rfl, Nat.le_of_ble_eq_true rfl, Nat.le_of_ble_eq_true rfl⟩ iX3_init_17 ?_
  refine fr_putR (pc := 40) dX2_init_40 fl_X2_23 ft_X2_2 ⟨rfl, rfl⟩ (fun _ => rfl) (fun _ => rfl) (by decide) rfl (by decide) (show xs_35 = _ from rfl) ?_
  refine fr_aload_n (pc := 43) dX2_init_43 0 rfl rfl ?_
  refine fr_iconst (pc := 44) (v := (0 : Int32)) dX2_init_44 (by decide) ?_
  refine fr_putIc false (pc := 45) dX2_init_45 fl_X2_26 ft_X2_3 ⟨rfl, rfl⟩ (by decide) rfl rfl (show hs_7 = _ from rfl) ?_
  exact fr_vret (X' := xs_0) (h' := hs_0) (pc := 48) dX2_init_48 rfl
set_option maxRecDepth 100000 in
set_option maxHeartbeats 4000000 in
theorem iX3_init_20 {g : fd_G} : fd_S g mX3_init 2 [.ref (g.2.2.2 + 20), .int (8 : Int32)] xs_38 hs_7 none xs_40 hs_7 1 8 := by
  refine fd_S.of (by decide +kernel) (Nat.le_of_ble_eq_true rfl) ?_
  refine fr_loc (lv' := [(0, .ref (g.2.2.2 + 20)), (1, .int (8 : Int32))]) [0, 1] rfl ?_
  refine fr_aload_n (pc := 0) dX3_init_0 0 rfl rfl ?_
  refine fr_objInit (pc := 1) dX3_init_1 kw_719 (Nat.le_of_ble_eq_true rfl) (Nat.le_of_ble_eq_true rfl) ?_
  refine fr_aload_n (pc := 4) dX3_init_4 0 rfl rfl ?_
  refine fr_iconst (pc := 5) (v := (0 : Int32)) dX3_init_5 (by decide) ?_
  refine fr_iload_n (pc := 6) dX3_init_6 1 rfl rfl ?_
  refine fr_max (pc := 7) dX3_init_7 kw_720 (Nat.le_of_ble_eq_true rfl) (Nat.le_of_ble_eq_true rfl) (Nat.le_of_ble_eq_true rfl) (Nat.le_of_ble_eq_true rfl) ?_
  refine fr_nmi (y := (8 : Int32)) (by decide) ?_
  refine fr_newI (pc := 10) (n := 8) dX3_init_10 rfl (by decide) (by decide) (by decide) ⟨Nat.le_of_ble_eq_true rfl, Nat.le_of_ble_eq_true rfl⟩ (show xs_39 = _ from rfl) ?_
  refine fr_putR (pc := 12) dX3_init_12 fl_X3_13 ft_X3_0 ⟨rfl, rfl⟩ (fun _ => rfl) (fun _ => rfl) (by decide) rfl (by decide) (show xs_40 = _ from rfl) ?_
  exact fr_vret (X' := xs_0) (h' := hs_0) (pc := 15) dX3_init_15 rfl
set_option maxRecDepth 100000 in
set_option maxHeartbeats 4000000 in
theorem iX3_init_22 {g : fd_G} : fd_S g mX3_init 2 [.ref (g.2.2.2 + 22), .int (8 : Int32)] xs_42 hs_7 none xs_44 hs_7 1 8 := by
  refine fd_S.of (by decide +kernel) (Nat.le_of_ble_eq_true rfl) ?_
  refine fr_loc (lv' := [(0, .ref (g.2.2.2 + 22)), (1, .int (8 : Int32))]) [0, 1] rfl ?_
  refine fr_aload_n (pc := 0) dX3_init_0 0 rfl rfl ?_
  refine fr_objInit (pc := 1) dX3_init_1 kw_719 (Nat.le_of_ble_eq_true rfl) (Nat.le_of_ble_eq_true rfl) ?_
  refine fr_aload_n (pc := 4) dX3_init_4 0 rfl rfl ?_
  refine fr_iconst (pc := 5) (v := (0 : Int32)) dX3_init_5 (by decide) ?_
  refine fr_iload_n (pc := 6) dX3_init_6 1 rfl rfl ?_
  refine fr_max (pc := 7) dX3_init_7 kw_720 (Nat.le_of_ble_eq_true rfl) (Nat.le_of_ble_eq_true rfl) (Nat.le_of_ble_eq_true rfl) (Nat.le_of_ble_eq_true rfl) ?_
  refine fr_nmi (y := (8 : Int32)) (by decide) ?_
  refine fr_newI (pc := 10) (n := 8) dX3_init_10 rfl (by decide) (by decide) (by decide) ⟨Nat.le_of_ble_eq_true rfl, Nat.le_of_ble_eq_true rfl⟩ (show xs_43 = _ from rfl) ?_
  refine fr_putR (pc := 12) dX3_init_12 fl_X3_13 ft_X3_0 ⟨rfl, rfl⟩ (fun _ => rfl) (fun _ => rfl) (by decide) rfl (by decide) (show xs_44 = _ from rfl) ?_
  exact fr_vret (X' := xs_0) (h' := hs_0) (pc := 15) dX3_init_15 rfl
set_option maxRecDepth 100000 in
set_option maxHeartbeats 4000000 in
theorem iX3_init_24 {g : fd_G} : fd_S g mX3_init 2 [.ref (g.2.2.2 + 24), .int (8 : Int32)] xs_46 hs_7 none xs_48 hs_7 1 8 := by
  refine fd_S.of (by decide +kernel) (Nat.le_of_ble_eq_true rfl) ?_
  refine fr_loc (lv' := [(0, .ref (g.2.2.2 + 24)), (1, .int (8 : Int32))]) [0, 1] rfl ?_
  refine fr_aload_n (pc := 0) dX3_init_0 0 rfl rfl ?_
  refine fr_objInit (pc := 1) dX3_init_1 kw_719 (Nat.le_of_ble_eq_true rfl) (Nat.le_of_ble_eq_true rfl) ?_
  refine fr_aload_n (pc := 4) dX3_init_4 0 rfl rfl ?_
  refine fr_iconst (pc := 5) (v := (0 : Int32)) dX3_init_5 (by decide) ?_
  refine fr_iload_n (pc := 6) dX3_init_6 1 rfl rfl ?_
  refine fr_max (pc := 7) dX3_init_7 kw_720 (Nat.le_of_ble_eq_true rfl) (Nat.le_of_ble_eq_true rfl) (Nat.le_of_ble_eq_true rfl) (Nat.le_of_ble_eq_true rfl) ?_
  refine fr_nmi (y := (8 : Int32)) (by decide) ?_
  refine fr_newI (pc := 10) (n := 8) dX3_init_10 rfl (by decide) (by decide) (by decide) ⟨Nat.le_of_ble_eq_true rfl, Nat.le_of_ble_eq_true rfl⟩ (show xs_47 = _ from rfl) ?_
  refine fr_putR (pc := 12) dX3_init_12 fl_X3_13 ft_X3_0 ⟨rfl, rfl⟩ (fun _ => rfl) (fun _ => rfl) (by decide) rfl (by decide) (show xs_48 = _ from rfl) ?_
  exact fr_vret (X' := xs_0) (h' := hs_0) (pc := 15) dX3_init_15 rfl
set_option maxRecDepth 100000 in
set_option maxHeartbeats 4000000 in
theorem iX1_init_19 {g : fd_G} : fd_S g mX1_init 3 [.ref (g.2.2.2 + 19)] xs_37 hs_7 none xs_49 hs_8 6 27 := by
  refine fd_S.of (by decide +kernel) (Nat.le_of_ble_eq_true rfl) ?_
  refine fr_loc (lv' := [(0, .ref (g.2.2.2 + 19))]) [0] rfl ?_
  refine fr_aload_n (pc := 0) dX1_init_0 0 rfl rfl ?_
  refine fr_objInit (pc := 1) dX1_init_1 kw_739 (Nat.le_of_ble_eq_true rfl) (Nat.le_of_ble_eq_true rfl) ?_
  refine fr_aload_n (pc := 4) dX1_init_4 0 rfl rfl ?_
  refine fr_new (pc := 5) (ty := tyX3) dX1_init_5 rfl inX3 tyX3_ok kw_740 kw_718 kw_49 rfl rfl df_X3 ⟨Nat.le_of_ble_eq_true rfl, Nat.le_of_ble_eq_true rfl⟩ (show xs_38 = _ from rfl) ?_
  refine fr_dup (pc := 8) dX1_init_8 rfl ?_
  refine fr_bipush (pc := 9) (v := (8 : Int32)) dX1_init_9 (by decide) ?_
  refine fr_callC (pc := 11) (av := [.int (8 : Int32)]) (mc := 1) (ms := 8) dX1_init_11 yy_X3_init (Or.inl kw_741) rfl rfl (Nat.le_of_ble_eq_true rfl) ⟨Nat.le_of_ble_eq_true rfl, Nat.le_of_ble_eq_true rfl, Nat.le_of_ble_eq_true rfl, Nat.le_of_ble_eq_true rfl⟩ iX3_init_20 ?_
  refine fr_putR (pc := 14) dX1_init_14 fl_X1_14 ft_X1_0 ⟨rfl, rfl⟩ (fun _ => rfl) (fun _ => rfl) (by decide) rfl (by decide) (show xs_41 = _ from rfl) ?_
  refine fr_aload_n (pc := 17) dX1_init_17 0 rfl rfl ?_
  refine fr_new (pc := 18) (ty := tyX3) dX1_init_18 rfl inX3 tyX3_ok kw_740 kw_718 kw_49 rfl rfl df_X3 ⟨Nat.le_of_ble_eq_true rfl, Nat.le_of_ble_eq_true rfl⟩ (show xs_42 = _ from rfl) ?_
  refine fr_dup (pc := 21) dX1_init_21 rfl ?_
  refine fr_bipush (pc := 22) (v := (8 : Int32)) dX1_init_22 (by decide) ?_
  refine fr_callC (pc := 24) (av := [.int (8 : Int32)]) (mc := 1) (ms := 8) dX1_init_24 yy_X3_init (Or.inl kw_741) rfl rfl (Nat.le_of_ble_eq_true rfl) ⟨Nat.le_of_ble_eq_true rfl, Nat.le_of_ble_eq_true rfl, Nat.le_of_ble_eq_true rfl, Nat.le_of_ble_eq_true rfl⟩ iX3_init_22 ?_
  refine fr_putR (pc := 27) dX1_init_27 fl_X1_20 ft_X1_1 ⟨rfl, rfl⟩ (fun _ => rfl) (fun _ => rfl) (by decide) rfl (by decide) (show xs_45 = _ from rfl) ?_
  refine fr_aload_n (pc := 30) dX1_init_30 0 rfl rfl ?_
  refine fr_new (pc := 31) (ty := tyX3) dX1_init_31 rfl inX3 tyX3_ok kw_740 kw_718 kw_49 rfl rfl df_X3 ⟨Nat.le_of_ble_eq_true rfl, Nat.le_of_ble_eq_true rfl⟩ (show xs_46 = _ from rfl) ?_
  refine fr_dup (pc := 34) dX1_init_34 rfl ?_
  refine fr_bipush (pc := 35) (v := (8 : Int32)) dX1_init_35 (by decide) ?_
  refine fr_callC (pc := 37) (av := [.int (8 : Int32)]) (mc := 1) (ms := 8) dX1_init_37 yy_X3_init (Or.inl kw_741) rfl rfl (Nat.le_of_ble_eq_true rfl) ⟨Nat.le_of_ble_eq_true rfl, Nat.le_of_ble_eq_true rfl, Nat.le_of_ble_eq_true rfl, Nat.le_of_ble_eq_true rfl⟩ iX3_init_24 ?_
  refine fr_putR (pc := 40) dX1_init_40 fl_X1_23 ft_X1_2 ⟨rfl, rfl⟩ (fun _ => rfl) (fun _ => rfl) (by decide) rfl (by decide) (show xs_49 = _ from rfl) ?_
  refine fr_aload_n (pc := 43) dX1_init_43 0 rfl rfl ?_
  refine fr_iconst (pc := 44) (v := (0 : Int32)) dX1_init_44 (by decide) ?_
  refine fr_putIc false (pc := 45) dX1_init_45 fl_X1_26 ft_X1_3 ⟨rfl, rfl⟩ (by decide) rfl rfl (show hs_8 = _ from rfl) ?_
  exact fr_vret (X' := xs_0) (h' := hs_0) (pc := 48) dX1_init_48 rfl
set_option maxRecDepth 100000 in
set_option maxHeartbeats 4000000 in
theorem iX3_init_27 {g : fd_G} : fd_S g mX3_init 2 [.ref (g.2.2.2 + 27), .int (8 : Int32)] xs_52 hs_8 none xs_54 hs_8 1 8 := by
  refine fd_S.of (by decide +kernel) (Nat.le_of_ble_eq_true rfl) ?_
  refine fr_loc (lv' := [(0, .ref (g.2.2.2 + 27)), (1, .int (8 : Int32))]) [0, 1] rfl ?_
  refine fr_aload_n (pc := 0) dX3_init_0 0 rfl rfl ?_
  refine fr_objInit (pc := 1) dX3_init_1 kw_719 (Nat.le_of_ble_eq_true rfl) (Nat.le_of_ble_eq_true rfl) ?_
  refine fr_aload_n (pc := 4) dX3_init_4 0 rfl rfl ?_
  refine fr_iconst (pc := 5) (v := (0 : Int32)) dX3_init_5 (by decide) ?_
  refine fr_iload_n (pc := 6) dX3_init_6 1 rfl rfl ?_
  refine fr_max (pc := 7) dX3_init_7 kw_720 (Nat.le_of_ble_eq_true rfl) (Nat.le_of_ble_eq_true rfl) (Nat.le_of_ble_eq_true rfl) (Nat.le_of_ble_eq_true rfl) ?_
  refine fr_nmi (y := (8 : Int32)) (by decide) ?_
  refine fr_newI (pc := 10) (n := 8) dX3_init_10 rfl (by decide) (by decide) (by decide) ⟨Nat.le_of_ble_eq_true rfl, Nat.le_of_ble_eq_true rfl⟩ (show xs_53 = _ from rfl) ?_
  refine fr_putR (pc := 12) dX3_init_12 fl_X3_13 ft_X3_0 ⟨rfl, rfl⟩ (fun _ => rfl) (fun _ => rfl) (by decide) rfl (by decide) (show xs_54 = _ from rfl) ?_
  exact fr_vret (X' := xs_0) (h' := hs_0) (pc := 15) dX3_init_15 rfl
set_option maxRecDepth 100000 in
set_option maxHeartbeats 4000000 in
theorem iX3_init_29 {g : fd_G} : fd_S g mX3_init 2 [.ref (g.2.2.2 + 29), .int (8 : Int32)] xs_56 hs_8 none xs_58 hs_8 1 8 := by
  refine fd_S.of (by decide +kernel) (Nat.le_of_ble_eq_true rfl) ?_
  refine fr_loc (lv' := [(0, .ref (g.2.2.2 + 29)), (1, .int (8 : Int32))]) [0, 1] rfl ?_
  refine fr_aload_n (pc := 0) dX3_init_0 0 rfl rfl ?_
  refine fr_objInit (pc := 1) dX3_init_1 kw_719 (Nat.le_of_ble_eq_true rfl) (Nat.le_of_ble_eq_true rfl) ?_
  refine fr_aload_n (pc := 4) dX3_init_4 0 rfl rfl ?_
  refine fr_iconst (pc := 5) (v := (0 : Int32)) dX3_init_5 (by decide) ?_
  refine fr_iload_n (pc := 6) dX3_init_6 1 rfl rfl ?_
  refine fr_max (pc := 7) dX3_init_7 kw_720 (Nat.le_of_ble_eq_true rfl) (Nat.le_of_ble_eq_true rfl) (Nat.le_of_ble_eq_true rfl) (Nat.le_of_ble_eq_true rfl) ?_
  refine fr_nmi (y := (8 : Int32)) (by decide) ?_
  refine fr_newI (pc := 10) (n := 8) dX3_init_10 rfl (by decide) (by decide) (by decide) ⟨Nat.le_of_ble_eq_true rfl, Nat.le_of_ble_eq_true rfl⟩ (show xs_57 = _ from rfl) ?_
  refine fr_putR (pc := 12) dX3_init_12 fl_X3_13 ft_X3_0 ⟨rfl, rfl⟩ (fun _ => rfl) (fun _ => rfl) (by decide) rfl (by decide) (show xs_58 = _ from rfl) ?_
  exact fr_vret (X' := xs_0) (h' := hs_0) (pc := 15) dX3_init_15 rfl
set_option maxRecDepth 100000 in
set_option maxHeartbeats 4000000 in
theorem iX3_init_31 {g : fd_G} : fd_S g mX3_init 2 [.ref (g.2.2.2 + 31), .int (8 : Int32)] xs_60 hs_8 none xs_62 hs_8 1 8 := by
  refine fd_S.of (by decide +kernel) (Nat.le_of_ble_eq_true rfl) ?_
  refine fr_loc (lv' := [(0, .ref (g.2.2.2 + 31)), (1, .int (8 : Int32))]) [0, 1] rfl ?_
  refine fr_aload_n (pc := 0) dX3_init_0 0 rfl rfl ?_
  refine fr_objInit (pc := 1) dX3_init_1 kw_719 (Nat.le_of_ble_eq_true rfl) (Nat.le_of_ble_eq_true rfl) ?_
  refine fr_aload_n (pc := 4) dX3_init_4 0 rfl rfl ?_
  refine fr_iconst (pc := 5) (v := (0 : Int32)) dX3_init_5 (by decide) ?_
  refine fr_iload_n (pc := 6) dX3_init_6 1 rfl rfl ?_
  refine fr_max (pc := 7) dX3_init_7 kw_720 (Nat.le_of_ble_eq_true rfl) (Nat.le_of_ble_eq_true rfl) (Nat.le_of_ble_eq_true rfl) (Nat.le_of_ble_eq_true rfl) ?_
  refine fr_nmi (y := (8 : Int32)) (by decide) ?_
  refine fr_newI (pc := 10) (n := 8) dX3_init_10 rfl (by decide) (by decide) (by decide) ⟨Nat.le_of_ble_eq_true rfl, Nat.le_of_ble_eq_true rfl⟩ (show xs_61 = _ from rfl) ?_
  refine fr_putR (pc := 12) dX3_init_12 fl_X3_13 ft_X3_0 ⟨rfl, rfl⟩ (fun _ => rfl) (fun _ => rfl) (by decide) rfl (by decide) (show xs_62 = _ from rfl) ?_
  exact fr_vret (X' := xs_0) (h' := hs_0) (pc := 15) dX3_init_15 rfl
set_option maxRecDepth 100000 in
set_option maxHeartbeats 4000000 in
theorem iX1_init_26 {g : fd_G} : fd_S g mX1_init 3 [.ref (g.2.2.2 + 26)] xs_51 hs_8 none xs_63 hs_9 6 27 := by
  refine fd_S.of (by decide +kernel) (Nat.le_of_ble_eq_true rfl) ?_
  refine fr_loc (lv' := [(0, .ref (g.2.2.2 + 26))]) [0] rfl ?_
  refine fr_aload_n (pc := 0) dX1_init_0 0 rfl rfl ?_
  refine fr_objInit (pc := 1) dX1_init_1 kw_739 (Nat.le_of_ble_eq_true rfl) (Nat.le_of_ble_eq_true rfl) ?_
  refine fr_aload_n (pc := 4) dX1_init_4 0 rfl rfl ?_
  refine fr_new (pc := 5) (ty := tyX3) dX1_init_5 rfl inX3 tyX3_ok kw_740 kw_718 kw_49 rfl rfl df_X3 ⟨Nat.le_of_ble_eq_true rfl, Nat.le_of_ble_eq_true rfl⟩ (show xs_52 = _ from rfl) ?_
  refine fr_dup (pc := 8) dX1_init_8 rfl ?_
  refine fr_bipush (pc := 9) (v := (8 : Int32)) dX1_init_9 (by decide) ?_
  refine fr_callC (pc := 11) (av := [.int (8 : Int32)]) (mc := 1) (ms := 8) dX1_init_11 yy_X3_init (Or.inl kw_741) rfl rfl (Nat.le_of_ble_eq_true rfl) ⟨Nat.le_of_ble_eq_true rfl, Nat.le_of_ble_eq_true rfl, Nat.le_of_ble_eq_true rfl, Nat.le_of_ble_eq_true rfl⟩ iX3_init_27 ?_
  refine fr_putR (pc := 14) dX1_init_14 fl_X1_14 ft_X1_0 ⟨rfl, rfl⟩ (fun _ => rfl) (fun _ => rfl) (by decide) rfl (by decide) (show xs_55 = _ from rfl) ?_
  refine fr_aload_n (pc := 17) dX1_init_17 0 rfl rfl ?_
  refine fr_new (pc := 18) (ty := tyX3) dX1_init_18 rfl inX3 tyX3_ok kw_740 kw_718 kw_49 rfl rfl df_X3 ⟨Nat.le_of_ble_eq_true rfl, Nat.le_of_ble_eq_true rfl⟩ (show xs_56 = _ from rfl) ?_
  refine fr_dup (pc := 21) dX1_init_21 rfl ?_
  refine fr_bipush (pc := 22) (v := (8 : Int32)) dX1_init_22 (by decide) ?_
  refine fr_callC (pc := 24) (av := [.int (8 : Int32)]) (mc := 1) (ms := 8) dX1_init_24 yy_X3_init (Or.inl kw_741) rfl rfl (Nat.le_of_ble_eq_true rfl) ⟨Nat.le_of_ble_eq_true rfl, Nat.le_of_ble_eq_true rfl, Nat.le_of_ble_eq_true rfl, Nat.le_of_ble_eq_true rfl⟩ iX3_init_29 ?_
  refine fr_putR (pc := 27) dX1_init_27 fl_X1_20 ft_X1_1 ⟨rfl, rfl⟩ (fun _ => rfl) (fun _ => rfl) (by decide) rfl (by decide) (show xs_59 = _ from rfl) ?_
  refine fr_aload_n (pc := 30) dX1_init_30 0 rfl rfl ?_
  refine fr_new (pc := 31) (ty := tyX3) dX1_init_31 rfl inX3 tyX3_ok kw_740 kw_718 kw_49 rfl rfl df_X3 ⟨Nat.le_of_ble_eq_true rfl, Nat.le_of_ble_eq_true rfl⟩ (show xs_60 = _ from rfl) ?_
  refine fr_dup (pc := 34) dX1_init_34 rfl ?_
  refine fr_bipush (pc := 35) (v := (8 : Int32)) dX1_init_35 (by decide) ?_
  refine fr_callC (pc := 37) (av := [.int (8 : Int32)]) (mc := 1) (ms := 8) dX1_init_37 yy_X3_init (Or.inl kw_741) rfl rfl (Nat.le_of_ble_eq_true rfl) ⟨Nat.le_of_ble_eq_true rfl, Nat.le_of_ble_eq_true rfl, Nat.le_of_ble_eq_true rfl, Nat.le_of_ble_eq_true rfl⟩ iX3_init_31 ?_
  refine fr_putR (pc := 40) dX1_init_40 fl_X1_23 ft_X1_2 ⟨rfl, rfl⟩ (fun _ => rfl) (fun _ => rfl) (by decide) rfl (by decide) (show xs_63 = _ from rfl) ?_
  refine fr_aload_n (pc := 43) dX1_init_43 0 rfl rfl ?_
  refine fr_iconst (pc := 44) (v := (0 : Int32)) dX1_init_44 (by decide) ?_
  refine fr_putIc false (pc := 45) dX1_init_45 fl_X1_26 ft_X1_3 ⟨rfl, rfl⟩ (by decide) rfl rfl (show hs_9 = _ from rfl) ?_
  exact fr_vret (X' := xs_0) (h' := hs_0) (pc := 48) dX1_init_48 rfl
set_option maxRecDepth 100000 in
set_option maxHeartbeats 4000000 in
theorem iX3_init_34 {g : fd_G} : fd_S g mX3_init 2 [.ref (g.2.2.2 + 34), .int (8 : Int32)] xs_66 hs_9 none xs_68 hs_9 1 8 := by
  refine fd_S.of (by decide +kernel) (Nat.le_of_ble_eq_true rfl) ?_
  refine fr_loc (lv' := [(0, .ref (g.2.2.2 + 34)), (1, .int (8 : Int32))]) [0, 1] rfl ?_
  refine fr_aload_n (pc := 0) dX3_init_0 0 rfl rfl ?_
  refine fr_objInit (pc := 1) dX3_init_1 kw_719 (Nat.le_of_ble_eq_true rfl) (Nat.le_of_ble_eq_true rfl) ?_
  refine fr_aload_n (pc := 4) dX3_init_4 0 rfl rfl ?_
  refine fr_iconst (pc := 5) (v := (0 : Int32)) dX3_init_5 (by decide) ?_
  refine fr_iload_n (pc := 6) dX3_init_6 1 rfl rfl ?_
  refine fr_max (pc := 7) dX3_init_7 kw_720 (Nat.le_of_ble_eq_true rfl) (Nat.le_of_ble_eq_true rfl) (Nat.le_of_ble_eq_true rfl) (Nat.le_of_ble_eq_true rfl) ?_
  refine fr_nmi (y := (8 : Int32)) (by decide) ?_
  refine fr_newI (pc := 10) (n := 8) dX3_init_10 rfl (by decide) (by decide) (by decide) ⟨Nat.le_of_ble_eq_true rfl, Nat.le_of_ble_eq_true rfl⟩ (show xs_67 = _ from rfl) ?_
  refine fr_putR (pc := 12) dX3_init_12 fl_X3_13 ft_X3_0 ⟨rfl, rfl⟩ (fun _ => rfl) (fun _ => rfl) (by decide) rfl (by decide) (show xs_68 = _ from rfl) ?_
  exact fr_vret (X' := xs_0) (h' := hs_0) (pc := 15) dX3_init_15 rfl
set_option maxRecDepth 100000 in
set_option maxHeartbeats 4000000 in
theorem iX3_init_36 {g : fd_G} : fd_S g mX3_init 2 [.ref (g.2.2.2 + 36), .int (8 : Int32)] xs_70 hs_9 none xs_72 hs_9 1 8 := by
  refine fd_S.of (by decide +kernel) (Nat.le_of_ble_eq_true rfl) ?_
  refine fr_loc (lv' := [(0, .ref (g.2.2.2 + 36)), (1, .int (8 : Int32))]) [0, 1] rfl ?_
  refine fr_aload_n (pc := 0) dX3_init_0 0 rfl rfl ?_
  refine fr_objInit (pc := 1) dX3_init_1 kw_719 (Nat.le_of_ble_eq_true rfl) (Nat.le_of_ble_eq_true rfl) ?_
  refine fr_aload_n (pc := 4) dX3_init_4 0 rfl rfl ?_
  refine fr_iconst (pc := 5) (v := (0 : Int32)) dX3_init_5 (by decide) ?_
  refine fr_iload_n (pc := 6) dX3_init_6 1 rfl rfl ?_
  refine fr_max (pc := 7) dX3_init_7 kw_720 (Nat.le_of_ble_eq_true rfl) (Nat.le_of_ble_eq_true rfl) (Nat.le_of_ble_eq_true rfl) (Nat.le_of_ble_eq_true rfl) ?_
  refine fr_nmi (y := (8 : Int32)) (by decide) ?_
  refine fr_newI (pc := 10) (n := 8) dX3_init_10 rfl (by decide) (by decide) (by decide) ⟨Nat.le_of_ble_eq_true rfl, Nat.le_of_ble_eq_true rfl⟩ (show xs_71 = _ from rfl) ?_
  refine fr_putR (pc := 12) dX3_init_12 fl_X3_13 ft_X3_0 ⟨rfl, rfl⟩ (fun _ => rfl) (fun _ => rfl) (by decide) rfl (by decide) (show xs_72 = _ from rfl) ?_
  exact fr_vret (X' := xs_0) (h' := hs_0) (pc := 15) dX3_init_15 rfl
set_option maxRecDepth 100000 in
set_option maxHeartbeats 4000000 in
theorem iX3_init_38 {g : fd_G} : fd_S g mX3_init 2 [.ref (g.2.2.2 + 38), .int (8 : Int32)] xs_74 hs_9 none xs_76 hs_9 1 8 := by
  refine fd_S.of (by decide +kernel) (Nat.le_of_ble_eq_true rfl) ?_
  refine fr_loc (lv' := [(0, .ref (g.2.2.2 + 38)), (1, .int (8 : Int32))]) [0, 1] rfl ?_
  refine fr_aload_n (pc := 0) dX3_init_0 0 rfl rfl ?_
  refine fr_objInit (pc := 1) dX3_init_1 kw_719 (Nat.le_of_ble_eq_true rfl) (Nat.le_of_ble_eq_true rfl) ?_
  refine fr_aload_n (pc := 4) dX3_init_4 0 rfl rfl ?_
  refine fr_iconst (pc := 5) (v := (0 : Int32)) dX3_init_5 (by decide) ?_
  refine fr_iload_n (pc := 6) dX3_init_6 1 rfl rfl ?_
  refine fr_max (pc := 7) dX3_init_7 kw_720 (Nat.le_of_ble_eq_true rfl) (Nat.le_of_ble_eq_true rfl) (Nat.le_of_ble_eq_true rfl) (Nat.le_of_ble_eq_true rfl) ?_
  refine fr_nmi (y := (8 : Int32)) (by decide) ?_
  refine fr_newI (pc := 10) (n := 8) dX3_init_10 rfl (by decide) (by decide) (by decide) ⟨Nat.le_of_ble_eq_true rfl, Nat.le_of_ble_eq_true rfl⟩ (show xs_75 = _ from rfl) ?_
  refine fr_putR (pc := 12) dX3_init_12 fl_X3_13 ft_X3_0 ⟨rfl, rfl⟩ (fun _ => rfl) (fun _ => rfl) (by decide) rfl (by decide) (show xs_76 = _ from rfl) ?_
  exact fr_vret (X' := xs_0) (h' := hs_0) (pc := 15) dX3_init_15 rfl
set_option maxRecDepth 100000 in
set_option maxHeartbeats 4000000 in
theorem iX1_init_33 {g : fd_G} : fd_S g mX1_init 3 [.ref (g.2.2.2 + 33)] xs_65 hs_9 none xs_77 hs_10 6 27 := by
  refine fd_S.of (by decide +kernel) (Nat.le_of_ble_eq_true rfl) ?_
  refine fr_loc (lv' := [(0, .ref (g.2.2.2 + 33))]) [0] rfl ?_
  refine fr_aload_n (pc := 0) dX1_init_0 0 rfl rfl ?_
  refine fr_objInit (pc := 1) dX1_init_1 kw_739 (Nat.le_of_ble_eq_true rfl) (Nat.le_of_ble_eq_true rfl) ?_
  refine fr_aload_n (pc := 4) dX1_init_4 0 rfl rfl ?_
  refine fr_new (pc := 5) (ty := tyX3) dX1_init_5 rfl inX3 tyX3_ok kw_740 kw_718 kw_49 rfl rfl df_X3 ⟨Nat.le_of_ble_eq_true rfl, Nat.le_of_ble_eq_true rfl⟩ (show xs_66 = _ from rfl) ?_
  refine fr_dup (pc := 8) dX1_init_8 rfl ?_
  refine fr_bipush (pc := 9) (v := (8 : Int32)) dX1_init_9 (by decide) ?_
  refine fr_callC (pc := 11) (av := [.int (8 : Int32)]) (mc := 1) (ms := 8) dX1_init_11 yy_X3_init (Or.inl kw_741) rfl rfl (Nat.le_of_ble_eq_true rfl) ⟨Nat.le_of_ble_eq_true rfl, Nat.le_of_ble_eq_true rfl, Nat.le_of_ble_eq_true rfl, Nat.le_of_ble_eq_true rfl⟩ iX3_init_34 ?_
  refine fr_putR (pc := 14) dX1_init_14 fl_X1_14 ft_X1_0 ⟨rfl, rfl⟩ (fun _ => rfl) (fun _ => rfl) (by decide) rfl (by decide) (show xs_69 = _ from rfl) ?_
  refine fr_aload_n (pc := 17) dX1_init_17 0 rfl rfl ?_
  refine fr_new (pc := 18) (ty := tyX3) dX1_init_18 rfl inX3 tyX3_ok kw_740 kw_718 kw_49 rfl rfl df_X3 ⟨Nat.le_of_ble_eq_true rfl, Nat.le_of_ble_eq_true rfl⟩ (show xs_70 = _ from rfl) ?_
  refine fr_dup (pc := 21) dX1_init_21 rfl ?_
  refine fr_bipush (pc := 22) (v := (8 : Int32)) dX1_init_22 (by decide) ?_
  refine fr_callC (pc := 24) (av := [.int (8 : Int32)]) (mc := 1) (ms := 8) dX1_init_24 yy_X3_init (Or.inl kw_741) rfl rfl (Nat.le_of_ble_eq_true rfl) ⟨Nat.le_of_ble_eq_true rfl, Nat.le_of_ble_eq_true rfl, Nat.le_of_ble_eq_true rfl, Nat.le_of_ble_eq_true rfl⟩ iX3_init_36 ?_
  refine fr_putR (pc := 27) dX1_init_27 fl_X1_20 ft_X1_1 ⟨rfl, rfl⟩ (fun _ => rfl) (fun _ => rfl) (by decide) rfl (by decide) (show xs_73 = _ from rfl) ?_
  refine fr_aload_n (pc := 30) dX1_init_30 0 rfl rfl ?_
  refine fr_new (pc := 31) (ty := tyX3) dX1_init_31 rfl inX3 tyX3_ok kw_740 kw_718 kw_49 rfl rfl df_X3 ⟨Nat.le_of_ble_eq_true rfl, Nat.le_of_ble_eq_true rfl⟩ (show xs_74 = _ from rfl) ?_
  refine fr_dup (pc := 34) dX1_init_34 rfl ?_
  refine fr_bipush (pc := 35) (v := (8 : Int32)) dX1_init_35 (by decide) ?_
  refine fr_callC (pc := 37) (av := [.int (8 : Int32)]) (mc := 1) (ms := 8) dX1_init_37 yy_X3_init (Or.inl kw_741) rfl rfl (Nat.le_of_ble_eq_true rfl) ⟨Nat.le_of_ble_eq_true rfl, Nat.le_of_ble_eq_true rfl, Nat.le_of_ble_eq_true rfl, Nat.le_of_ble_eq_true rfl⟩ iX3_init_38 ?_
  refine fr_putR (pc := 40) dX1_init_40 fl_X1_23 ft_X1_2 ⟨rfl, rfl⟩ (fun _ => rfl) (fun _ => rfl) (by decide) rfl (by decide) (show xs_77 = _ from rfl) ?_
  refine fr_aload_n (pc := 43) dX1_init_43 0 rfl rfl ?_
  refine fr_iconst (pc := 44) (v := (0 : Int32)) dX1_init_44 (by decide) ?_
  refine fr_putIc false (pc := 45) dX1_init_45 fl_X1_26 ft_X1_3 ⟨rfl, rfl⟩ (by decide) rfl rfl (show hs_10 = _ from rfl) ?_
  exact fr_vret (X' := xs_0) (h' := hs_0) (pc := 48) dX1_init_48 rfl
set_option maxRecDepth 100000 in
set_option maxHeartbeats 4000000 in
theorem iX3_init_40 {g : fd_G} : fd_S g mX3_init 2 [.ref (g.2.2.2 + 40), .int (40 : Int32)] xs_79 hs_10 none xs_81 hs_10 1 40 := by
  refine fd_S.of (by decide +kernel) (Nat.le_of_ble_eq_true rfl) ?_
  refine fr_loc (lv' := [(0, .ref (g.2.2.2 + 40)), (1, .int (40 : Int32))]) [0, 1] rfl ?_
  refine fr_aload_n (pc := 0) dX3_init_0 0 rfl rfl ?_
  refine fr_objInit (pc := 1) dX3_init_1 kw_719 (Nat.le_of_ble_eq_true rfl) (Nat.le_of_ble_eq_true rfl) ?_
  refine fr_aload_n (pc := 4) dX3_init_4 0 rfl rfl ?_
  refine fr_iconst (pc := 5) (v := (0 : Int32)) dX3_init_5 (by decide) ?_
  refine fr_iload_n (pc := 6) dX3_init_6 1 rfl rfl ?_
  refine fr_max (pc := 7) dX3_init_7 kw_720 (Nat.le_of_ble_eq_true rfl) (Nat.le_of_ble_eq_true rfl) (Nat.le_of_ble_eq_true rfl) (Nat.le_of_ble_eq_true rfl) ?_
  refine fr_nmi (y := (40 : Int32)) (by decide) ?_
  refine fr_newI (pc := 10) (n := 40) dX3_init_10 rfl (by decide) (by decide) (by decide) ⟨Nat.le_of_ble_eq_true rfl, Nat.le_of_ble_eq_true rfl⟩ (show xs_80 = _ from rfl) ?_
  refine fr_putR (pc := 12) dX3_init_12 fl_X3_13 ft_X3_0 ⟨rfl, rfl⟩ (fun _ => rfl) (fun _ => rfl) (by decide) rfl (by decide) (show xs_81 = _ from rfl) ?_
  exact fr_vret (X' := xs_0) (h' := hs_0) (pc := 15) dX3_init_15 rfl
set_option maxRecDepth 100000 in
set_option maxHeartbeats 4000000 in
theorem iX5_init_42 {g : fd_G} : fd_S g mX5_init 1 [.ref (g.2.2.2 + 42)] xs_83 hs_13 none xs_85 hs_13 1 8 := by
  refine fd_S.of (by decide +kernel) (Nat.le_of_ble_eq_true rfl) ?_
  refine fr_loc (lv' := [(0, .ref (g.2.2.2 + 42))]) [0] rfl ?_
  refine fr_aload_n (pc := 0) dX5_init_0 0 rfl rfl ?_
  refine fr_objInit (pc := 1) dX5_init_1 kw_748 (Nat.le_of_ble_eq_true rfl) (Nat.le_of_ble_eq_true rfl) ?_
  refine fr_aload_n (pc := 4) dX5_init_4 0 rfl rfl ?_
  refine fr_bipush (pc := 5) (v := (8 : Int32)) dX5_init_5 (by decide) ?_
  refine fr_newL (pc := 7) (n := 8) dX5_init_7 rfl (by decide) (by decide) (by decide) ⟨Nat.le_of_ble_eq_true rfl, Nat.le_of_ble_eq_true rfl⟩ (show xs_84 = _ from rfl) ?_
  refine fr_putR (pc := 9) dX5_init_9 fl_X5_9 ft_X5_0 ⟨rfl, rfl⟩ (fun _ => rfl) (fun _ => rfl) (by decide) rfl (by decide) (show xs_85 = _ from rfl) ?_
  exact fr_vret (X' := xs_0) (h' := hs_0) (pc := 12) dX5_init_12 rfl
set_option maxRecDepth 100000 in
set_option maxHeartbeats 4000000 in
theorem iX5_init_44 {g : fd_G} : fd_S g mX5_init 1 [.ref (g.2.2.2 + 44)] xs_87 hs_13 none xs_89 hs_13 1 8 := by
  refine fd_S.of (by decide +kernel) (Nat.le_of_ble_eq_true rfl) ?_
  refine fr_loc (lv' := [(0, .ref (g.2.2.2 + 44))]) [0] rfl ?_
  refine fr_aload_n (pc := 0) dX5_init_0 0 rfl rfl ?_
  refine fr_objInit (pc := 1) dX5_init_1 kw_748 (Nat.le_of_ble_eq_true rfl) (Nat.le_of_ble_eq_true rfl) ?_
  refine fr_aload_n (pc := 4) dX5_init_4 0 rfl rfl ?_
  refine fr_bipush (pc := 5) (v := (8 : Int32)) dX5_init_5 (by decide) ?_
  refine fr_newL (pc := 7) (n := 8) dX5_init_7 rfl (by decide) (by decide) (by decide) ⟨Nat.le_of_ble_eq_true rfl, Nat.le_of_ble_eq_true rfl⟩ (show xs_88 = _ from rfl) ?_
  refine fr_putR (pc := 9) dX5_init_9 fl_X5_9 ft_X5_0 ⟨rfl, rfl⟩ (fun _ => rfl) (fun _ => rfl) (by decide) rfl (by decide) (show xs_89 = _ from rfl) ?_
  exact fr_vret (X' := xs_0) (h' := hs_0) (pc := 12) dX5_init_12 rfl
set_option maxRecDepth 100000 in
set_option maxHeartbeats 4000000 in
theorem iX5_init_46 {g : fd_G} : fd_S g mX5_init 1 [.ref (g.2.2.2 + 46)] xs_91 hs_13 none xs_93 hs_13 1 8 := by
  refine fd_S.of (by decide +kernel) (Nat.le_of_ble_eq_true rfl) ?_
  refine fr_loc (lv' := [(0, .ref (g.2.2.2 + 46))]) [0] rfl ?_
  refine fr_aload_n (pc := 0) dX5_init_0 0 rfl rfl ?_
  refine fr_objInit (pc := 1) dX5_init_1 kw_748 (Nat.le_of_ble_eq_true rfl) (Nat.le_of_ble_eq_true rfl) ?_
  refine fr_aload_n (pc := 4) dX5_init_4 0 rfl rfl ?_
  refine fr_bipush (pc := 5) (v := (8 : Int32)) dX5_init_5 (by decide) ?_
  refine fr_newL (pc := 7) (n := 8) dX5_init_7 rfl (by decide) (by decide) (by decide) ⟨Nat.le_of_ble_eq_true rfl, Nat.le_of_ble_eq_true rfl⟩ (show xs_92 = _ from rfl) ?_
  refine fr_putR (pc := 9) dX5_init_9 fl_X5_9 ft_X5_0 ⟨rfl, rfl⟩ (fun _ => rfl) (fun _ => rfl) (by decide) rfl (by decide) (show xs_93 = _ from rfl) ?_
  exact fr_vret (X' := xs_0) (h' := hs_0) (pc := 12) dX5_init_12 rfl
set_option maxRecDepth 100000 in
set_option maxHeartbeats 4000000 in
theorem iX7_init_11 {g : fd_G} : fd_S g mX7_init 4 [.ref (g.2.2.2 + 11)] xs_22 hs_6 none xs_94 hs_13 36 192 := by
  refine fd_S.of (by decide +kernel) (Nat.le_of_ble_eq_true rfl) ?_
  refine fr_loc (lv' := [(0, .ref (g.2.2.2 + 11))]) [0] rfl ?_
  refine fr_aload_n (pc := 0) dX7_init_0 0 rfl rfl ?_
  refine fr_objInit (pc := 1) dX7_init_1 kw_729 (Nat.le_of_ble_eq_true rfl) (Nat.le_of_ble_eq_true rfl) ?_
  refine fr_aload_n (pc := 4) dX7_init_4 0 rfl rfl ?_
  refine fr_new (pc := 5) (ty := tyX2) dX7_init_5 rfl inX2 tyX2_ok kw_730 kw_731 kw_78 rfl rfl df_X2 ⟨Nat.le_of_ble_eq_true rfl, Nat.le_of_ble_eq_true rfl⟩ (show xs_23 = _ from rfl) ?_
  refine fr_dup (pc := 8) dX7_init_8 rfl ?_
  refine fr_callC (pc := 9) (av := []) (mc := 6) (ms := 27) dX7_init_9 yy_X2_init (Or.inr (List.mem_of_getElem? (i := 1) rfl)) rfl rfl (Nat.le_of_ble_eq_true rfl) ⟨Nat.le_of_ble_eq_true rfl, Nat.le_of_ble_eq_true rfl, Nat.le_of_ble_eq_true rfl, Nat.le_of_ble_eq_true rfl⟩ iX2_init_12 ?_
  refine fr_putR (pc := 12) dX7_init_12 fl_X7_12 ft_X7_0 ⟨rfl, rfl⟩ (fun _ => rfl) (fun _ => rfl) (by decide) rfl (by decide) (show xs_36 = _ from rfl) ?_
  refine fr_aload_n (pc := 15) dX7_init_15 0 rfl rfl ?_
  refine fr_new (pc := 16) (ty := tyX1) dX7_init_16 rfl inX1 tyX1_ok kw_737 kw_738 kw_206 rfl rfl df_X1 ⟨Nat.le_of_ble_eq_true rfl, Nat.le_of_ble_eq_true rfl⟩ (show xs_37 = _ from rfl) ?_
  refine fr_dup (pc := 19) dX7_init_19 rfl ?_
  refine fr_callC (pc := 20) (av := []) (mc := 6) (ms := 27) dX7_init_20 yy_X1_init (Or.inr (List.mem_of_getElem? (i := 2) rfl)) rfl rfl (Nat.le_of_ble_eq_true rfl) ⟨Nat.le_of_ble_eq_true rfl, Nat.le_of_ble_eq_true rfl, Nat.le_of_ble_eq_true rfl, Nat.le_of_ble_eq_true rfl⟩ iX1_init_19 ?_
  refine fr_putR (pc := 23) dX7_init_23 fl_X7_21 ft_X7_1 ⟨rfl, rfl⟩ (fun _ => rfl) (fun _ => rfl) (by decide) rfl (by decide) (show xs_50 = _ from rfl) ?_
  refine fr_aload_n (pc := 26) dX7_init_26 0 rfl rfl ?_
  refine fr_new (pc := 27) (ty := tyX1) dX7_init_27 rfl inX1 tyX1_ok kw_737 kw_738 kw_206 rfl rfl df_X1 ⟨Nat.le_of_ble_eq_true rfl, Nat.le_of_ble_eq_true rfl⟩ (show xs_51 = _ from rfl) ?_
  refine fr_dup (pc := 30) dX7_init_30 rfl ?_
  refine fr_callC (pc := 31) (av := []) (mc := 6) (ms := 27) dX7_init_31 yy_X1_init (Or.inr (List.mem_of_getElem? (i := 2) rfl)) rfl rfl (Nat.le_of_ble_eq_true rfl) ⟨Nat.le_of_ble_eq_true rfl, Nat.le_of_ble_eq_true rfl, Nat.le_of_ble_eq_true rfl, Nat.le_of_ble_eq_true rfl⟩ iX1_init_26 ?_
  refine fr_putR (pc := 34) dX7_init_34 fl_X7_25 ft_X7_2 ⟨rfl, rfl⟩ (fun _ => rfl) (fun _ => rfl) (by decide) rfl (by decide) (show xs_64 = _ from rfl) ?_
  refine fr_aload_n (pc := 37) dX7_init_37 0 rfl rfl ?_
  refine fr_new (pc := 38) (ty := tyX1) dX7_init_38 rfl inX1 tyX1_ok kw_737 kw_738 kw_206 rfl rfl df_X1 ⟨Nat.le_of_ble_eq_true rfl, Nat.le_of_ble_eq_true rfl⟩ (show xs_65 = _ from rfl) ?_
  refine fr_dup (pc := 41) dX7_init_41 rfl ?_
  refine fr_callC (pc := 42) (av := []) (mc := 6) (ms := 27) dX7_init_42 yy_X1_init (Or.inr (List.mem_of_getElem? (i := 2) rfl)) rfl rfl (Nat.le_of_ble_eq_true rfl) ⟨Nat.le_of_ble_eq_true rfl, Nat.le_of_ble_eq_true rfl, Nat.le_of_ble_eq_true rfl, Nat.le_of_ble_eq_true rfl⟩ iX1_init_33 ?_
  refine fr_putR (pc := 45) dX7_init_45 fl_X7_28 ft_X7_3 ⟨rfl, rfl⟩ (fun _ => rfl) (fun _ => rfl) (by decide) rfl (by decide) (show xs_78 = _ from rfl) ?_
  refine fr_aload_n (pc := 48) dX7_init_48 0 rfl rfl ?_
  refine fr_new (pc := 49) (ty := tyX3) dX7_init_49 rfl inX3 tyX3_ok kw_744 kw_718 kw_49 rfl rfl df_X3 ⟨Nat.le_of_ble_eq_true rfl, Nat.le_of_ble_eq_true rfl⟩ (show xs_79 = _ from rfl) ?_
  refine fr_dup (pc := 52) dX7_init_52 rfl ?_
  refine fr_bipush (pc := 53) (v := (40 : Int32)) dX7_init_53 (by decide) ?_
  refine fr_callC (pc := 55) (av := [.int (40 : Int32)]) (mc := 1) (ms := 40) dX7_init_55 yy_X3_init (Or.inl kw_745) rfl rfl (Nat.le_of_ble_eq_true rfl) ⟨Nat.le_of_ble_eq_true rfl, Nat.le_of_ble_eq_true rfl, Nat.le_of_ble_eq_true rfl, Nat.le_of_ble_eq_true rfl⟩ iX3_init_40 ?_
  refine fr_putR (pc := 58) dX7_init_58 fl_X7_36 ft_X7_4 ⟨rfl, rfl⟩ (fun _ => rfl) (fun _ => rfl) (by decide) rfl (by decide) (show xs_82 = _ from rfl) ?_
  refine fr_aload_n (pc := 61) dX7_init_61 0 rfl rfl ?_
  refine fr_iconst (pc := 62) (v := (0 : Int32)) dX7_init_62 (by decide) ?_
  refine fr_putIc false (pc := 63) dX7_init_63 fl_X7_40 ft_X7_5 ⟨rfl, rfl⟩ (by decide) rfl rfl (show hs_11 = _ from rfl) ?_
  refine fr_aload_n (pc := 66) dX7_init_66 0 rfl rfl ?_
  refine fr_bipush (pc := 67) (v := (6 : Int32)) dX7_init_67 (by decide) ?_
  refine fr_putIc false (pc := 69) dX7_init_69 fl_X7_44 ft_X7_6 ⟨rfl, rfl⟩ (by decide) rfl rfl (show hs_12 = _ from rfl) ?_
  refine fr_aload_n (pc := 72) dX7_init_72 0 rfl rfl ?_
  refine fr_lconst (pc := 73) (v := (0 : Int64)) dX7_init_73 (by decide) ?_
  refine fr_putLc (pc := 74) dX7_init_74 fl_X7_47 ft_X7_7 (by decide) rfl rfl (show hs_13 = _ from rfl) ?_
  refine fr_aload_n (pc := 77) dX7_init_77 0 rfl rfl ?_
  refine fr_new (pc := 78) (ty := tyX5) dX7_init_78 rfl inX5 tyX5_ok kw_746 kw_747 kw_85 rfl rfl df_X5 ⟨Nat.le_of_ble_eq_true rfl, Nat.le_of_ble_eq_true rfl⟩ (show xs_83 = _ from rfl) ?_
  refine fr_dup (pc := 81) dX7_init_81 rfl ?_
  refine fr_callC (pc := 82) (av := []) (mc := 1) (ms := 8) dX7_init_82 yy_X5_init (Or.inr (List.mem_of_getElem? (i := 3) rfl)) rfl rfl (Nat.le_of_ble_eq_true rfl) ⟨Nat.le_of_ble_eq_true rfl, Nat.le_of_ble_eq_true rfl, Nat.le_of_ble_eq_true rfl, Nat.le_of_ble_eq_true rfl⟩ iX5_init_42 ?_
  refine fr_putR (pc := 85) dX7_init_85 fl_X7_54 ft_X7_8 ⟨rfl, rfl⟩ (fun _ => rfl) (fun _ => rfl) (by decide) rfl (by decide) (show xs_86 = _ from rfl) ?_
  refine fr_aload_n (pc := 88) dX7_init_88 0 rfl rfl ?_
  refine fr_new (pc := 89) (ty := tyX5) dX7_init_89 rfl inX5 tyX5_ok kw_746 kw_747 kw_85 rfl rfl df_X5 ⟨Nat.le_of_ble_eq_true rfl, Nat.le_of_ble_eq_true rfl⟩ (show xs_87 = _ from rfl) ?_
  refine fr_dup (pc := 92) dX7_init_92 rfl ?_
  refine fr_callC (pc := 93) (av := []) (mc := 1) (ms := 8) dX7_init_93 yy_X5_init (Or.inr (List.mem_of_getElem? (i := 3) rfl)) rfl rfl (Nat.le_of_ble_eq_true rfl) ⟨Nat.le_of_ble_eq_true rfl, Nat.le_of_ble_eq_true rfl, Nat.le_of_ble_eq_true rfl, Nat.le_of_ble_eq_true rfl⟩ iX5_init_44 ?_
  refine fr_putR (pc := 96) dX7_init_96 fl_X7_58 ft_X7_9 ⟨rfl, rfl⟩ (fun _ => rfl) (fun _ => rfl) (by decide) rfl (by decide) (show xs_90 = _ from rfl) ?_
  refine fr_aload_n (pc := 99) dX7_init_99 0 rfl rfl ?_
  refine fr_new (pc := 100) (ty := tyX5) dX7_init_100 rfl inX5 tyX5_ok kw_746 kw_747 kw_85 rfl rfl df_X5 ⟨Nat.le_of_ble_eq_true rfl, Nat.le_of_ble_eq_true rfl⟩ (show xs_91 = _ from rfl) ?_
  refine fr_dup (pc := 103) dX7_init_103 rfl ?_
  refine fr_callC (pc := 104) (av := []) (mc := 1) (ms := 8) dX7_init_104 yy_X5_init (Or.inr (List.mem_of_getElem? (i := 3) rfl)) rfl rfl (Nat.le_of_ble_eq_true rfl) ⟨Nat.le_of_ble_eq_true rfl, Nat.le_of_ble_eq_true rfl, Nat.le_of_ble_eq_true rfl, Nat.le_of_ble_eq_true rfl⟩ iX5_init_46 ?_
  refine fr_putR (pc := 107) dX7_init_107 fl_X7_61 ft_X7_10 ⟨rfl, rfl⟩ (fun _ => rfl) (fun _ => rfl) (by decide) rfl (by decide) (show xs_94 = _ from rfl) ?_
  exact fr_vret (X' := xs_0) (h' := hs_0) (pc := 110) dX7_init_110 rfl
set_option maxRecDepth 100000 in
set_option maxHeartbeats 4000000 in
theorem iX3_init_49 {g : fd_G} : fd_S g mX3_init 2 [.ref (g.2.2.2 + 49), .int (45 : Int32)] xs_98 hs_13 none xs_100 hs_13 1 45 := by
  refine fd_S.of (by decide +kernel) (Nat.le_of_ble_eq_true rfl) ?_
  refine fr_loc (lv' := [(0, .ref (g.2.2.2 + 49)), (1, .int (45 : Int32))]) [0, 1] rfl ?_
  refine fr_aload_n (pc := 0) dX3_init_0 0 rfl rfl ?_
  refine fr_objInit (pc := 1) dX3_init_1 kw_719 (Nat.le_of_ble_eq_true rfl) (Nat.le_of_ble_eq_true rfl) ?_
  refine fr_aload_n (pc := 4) dX3_init_4 0 rfl rfl ?_
  refine fr_iconst (pc := 5) (v := (0 : Int32)) dX3_init_5 (by decide) ?_
  refine fr_iload_n (pc := 6) dX3_init_6 1 rfl rfl ?_
  refine fr_max (pc := 7) dX3_init_7 kw_720 (Nat.le_of_ble_eq_true rfl) (Nat.le_of_ble_eq_true rfl) (Nat.le_of_ble_eq_true rfl) (Nat.le_of_ble_eq_true rfl) ?_
  refine fr_nmi (y := (45 : Int32)) (by decide) ?_
  refine fr_newI (pc := 10) (n := 45) dX3_init_10 rfl (by decide) (by decide) (by decide) ⟨Nat.le_of_ble_eq_true rfl, Nat.le_of_ble_eq_true rfl⟩ (show xs_99 = _ from rfl) ?_
  refine fr_putR (pc := 12) dX3_init_12 fl_X3_13 ft_X3_0 ⟨rfl, rfl⟩ (fun _ => rfl) (fun _ => rfl) (by decide) rfl (by decide) (show xs_100 = _ from rfl) ?_
  exact fr_vret (X' := xs_0) (h' := hs_0) (pc := 15) dX3_init_15 rfl
set_option maxRecDepth 100000 in
set_option maxHeartbeats 4000000 in
theorem iX0_init_48 {g : fd_G} : fd_S g mX0_init 3 [.ref (g.2.2.2 + 48)] xs_97 hs_13 none xs_101 hs_14 2 46 := by
  refine fd_S.of (by decide +kernel) (Nat.le_of_ble_eq_true rfl) ?_
  refine fr_loc (lv' := [(0, .ref (g.2.2.2 + 48))]) [0] rfl ?_
  refine fr_aload_n (pc := 0) dX0_init_0 0 rfl rfl ?_
  refine fr_objInit (pc := 1) dX0_init_1 kw_756 (Nat.le_of_ble_eq_true rfl) (Nat.le_of_ble_eq_true rfl) ?_
  refine fr_aload_n (pc := 4) dX0_init_4 0 rfl rfl ?_
  refine fr_new (pc := 5) (ty := tyX3) dX0_init_5 rfl inX3 tyX3_ok kw_757 kw_718 kw_49 rfl rfl df_X3 ⟨Nat.le_of_ble_eq_true rfl, Nat.le_of_ble_eq_true rfl⟩ (show xs_98 = _ from rfl) ?_
  refine fr_dup (pc := 8) dX0_init_8 rfl ?_
  refine fr_bipush (pc := 9) (v := (45 : Int32)) dX0_init_9 (by decide) ?_
  refine fr_callC (pc := 11) (av := [.int (45 : Int32)]) (mc := 1) (ms := 45) dX0_init_11 yy_X3_init (Or.inl kw_758) rfl rfl (Nat.le_of_ble_eq_true rfl) ⟨Nat.le_of_ble_eq_true rfl, Nat.le_of_ble_eq_true rfl, Nat.le_of_ble_eq_true rfl, Nat.le_of_ble_eq_true rfl⟩ iX3_init_49 ?_
  refine fr_putR (pc := 14) dX0_init_14 fl_X0_14 ft_X0_0 ⟨rfl, rfl⟩ (fun _ => rfl) (fun _ => rfl) (by decide) rfl (by decide) (show xs_101 = _ from rfl) ?_
  refine fr_aload_n (pc := 17) dX0_init_17 0 rfl rfl ?_
  refine fr_iconst (pc := 18) (v := (0 : Int32)) dX0_init_18 (by decide) ?_
  refine fr_putIc false (pc := 19) dX0_init_19 fl_X0_20 ft_X0_1 ⟨rfl, rfl⟩ (by decide) rfl rfl (show hs_14 = _ from rfl) ?_
  exact fr_vret (X' := xs_0) (h' := hs_0) (pc := 22) dX0_init_22 rfl
set_option maxRecDepth 100000 in
set_option maxHeartbeats 4000000 in
theorem iX3_init_52 {g : fd_G} : fd_S g mX3_init 2 [.ref (g.2.2.2 + 52), .int (8 : Int32)] xs_104 hs_14 none xs_106 hs_14 1 8 := by
  refine fd_S.of (by decide +kernel) (Nat.le_of_ble_eq_true rfl) ?_
  refine fr_loc (lv' := [(0, .ref (g.2.2.2 + 52)), (1, .int (8 : Int32))]) [0, 1] rfl ?_
  refine fr_aload_n (pc := 0) dX3_init_0 0 rfl rfl ?_
  refine fr_objInit (pc := 1) dX3_init_1 kw_719 (Nat.le_of_ble_eq_true rfl) (Nat.le_of_ble_eq_true rfl) ?_
  refine fr_aload_n (pc := 4) dX3_init_4 0 rfl rfl ?_
  refine fr_iconst (pc := 5) (v := (0 : Int32)) dX3_init_5 (by decide) ?_
  refine fr_iload_n (pc := 6) dX3_init_6 1 rfl rfl ?_
  refine fr_max (pc := 7) dX3_init_7 kw_720 (Nat.le_of_ble_eq_true rfl) (Nat.le_of_ble_eq_true rfl) (Nat.le_of_ble_eq_true rfl) (Nat.le_of_ble_eq_true rfl) ?_
  refine fr_nmi (y := (8 : Int32)) (by decide) ?_
  refine fr_newI (pc := 10) (n := 8) dX3_init_10 rfl (by decide) (by decide) (by decide) ⟨Nat.le_of_ble_eq_true rfl, Nat.le_of_ble_eq_true rfl⟩ (show xs_105 = _ from rfl) ?_
  refine fr_putR (pc := 12) dX3_init_12 fl_X3_13 ft_X3_0 ⟨rfl, rfl⟩ (fun _ => rfl) (fun _ => rfl) (by decide) rfl (by decide) (show xs_106 = _ from rfl) ?_
  exact fr_vret (X' := xs_0) (h' := hs_0) (pc := 15) dX3_init_15 rfl
set_option maxRecDepth 100000 in
set_option maxHeartbeats 4000000 in
theorem iX3_init_54 {g : fd_G} : fd_S g mX3_init 2 [.ref (g.2.2.2 + 54), .int (8 : Int32)] xs_108 hs_14 none xs_110 hs_14 1 8 := by
  refine fd_S.of (by decide +kernel) (Nat.le_of_ble_eq_true rfl) ?_
  refine fr_loc (lv' := [(0, .ref (g.2.2.2 + 54)), (1, .int (8 : Int32))]) [0, 1] rfl ?_
  refine fr_aload_n (pc := 0) dX3_init_0 0 rfl rfl ?_
  refine fr_objInit (pc := 1) dX3_init_1 kw_719 (Nat.le_of_ble_eq_true rfl) (Nat.le_of_ble_eq_true rfl) ?_
  refine fr_aload_n (pc := 4) dX3_init_4 0 rfl rfl ?_
  refine fr_iconst (pc := 5) (v := (0 : Int32)) dX3_init_5 (by decide) ?_
  refine fr_iload_n (pc := 6) dX3_init_6 1 rfl rfl ?_
  refine fr_max (pc := 7) dX3_init_7 kw_720 (Nat.le_of_ble_eq_true rfl) (Nat.le_of_ble_eq_true rfl) (Nat.le_of_ble_eq_true rfl) (Nat.le_of_ble_eq_true rfl) ?_
  refine fr_nmi (y := (8 : Int32)) (by decide) ?_
  refine fr_newI (pc := 10) (n := 8) dX3_init_10 rfl (by decide) (by decide) (by decide) ⟨Nat.le_of_ble_eq_true rfl, Nat.le_of_ble_eq_true rfl⟩ (show xs_109 = _ from rfl) ?_
  refine fr_putR (pc := 12) dX3_init_12 fl_X3_13 ft_X3_0 ⟨rfl, rfl⟩ (fun _ => rfl) (fun _ => rfl) (by decide) rfl (by decide) (show xs_110 = _ from rfl) ?_
  exact fr_vret (X' := xs_0) (h' := hs_0) (pc := 15) dX3_init_15 rfl
set_option maxRecDepth 100000 in
set_option maxHeartbeats 4000000 in
theorem iX3_init_56 {g : fd_G} : fd_S g mX3_init 2 [.ref (g.2.2.2 + 56), .int (8 : Int32)] xs_112 hs_14 none xs_114 hs_14 1 8 := by
  refine fd_S.of (by decide +kernel) (Nat.le_of_ble_eq_true rfl) ?_
  refine fr_loc (lv' := [(0, .ref (g.2.2.2 + 56)), (1, .int (8 : Int32))]) [0, 1] rfl ?_
  refine fr_aload_n (pc := 0) dX3_init_0 0 rfl rfl ?_
  refine fr_objInit (pc := 1) dX3_init_1 kw_719 (Nat.le_of_ble_eq_true rfl) (Nat.le_of_ble_eq_true rfl) ?_
  refine fr_aload_n (pc := 4) dX3_init_4 0 rfl rfl ?_
  refine fr_iconst (pc := 5) (v := (0 : Int32)) dX3_init_5 (by decide) ?_
  refine fr_iload_n (pc := 6) dX3_init_6 1 rfl rfl ?_
  refine fr_max (pc := 7) dX3_init_7 kw_720 (Nat.le_of_ble_eq_true rfl) (Nat.le_of_ble_eq_true rfl) (Nat.le_of_ble_eq_true rfl) (Nat.le_of_ble_eq_true rfl) ?_
  refine fr_nmi (y := (8 : Int32)) (by decide) ?_
  refine fr_newI (pc := 10) (n := 8) dX3_init_10 rfl (by decide) (by decide) (by decide) ⟨Nat.le_of_ble_eq_true rfl, Nat.le_of_ble_eq_true rfl⟩ (show xs_113 = _ from rfl) ?_
  refine fr_putR (pc := 12) dX3_init_12 fl_X3_13 ft_X3_0 ⟨rfl, rfl⟩ (fun _ => rfl) (fun _ => rfl) (by decide) rfl (by decide) (show xs_114 = _ from rfl) ?_
  exact fr_vret (X' := xs_0) (h' := hs_0) (pc := 15) dX3_init_15 rfl
set_option maxRecDepth 100000 in
set_option maxHeartbeats 4000000 in
theorem iX1_init_51 {g : fd_G} : fd_S g mX1_init 3 [.ref (g.2.2.2 + 51)] xs_103 hs_14 none xs_115 hs_15 6 27 := by
  refine fd_S.of (by decide +kernel) (Nat.le_of_ble_eq_true rfl) ?_
  refine fr_loc (lv' := [(0, .ref (g.2.2.2 + 51))]) [0] rfl ?_
  refine fr_aload_n (pc := 0) dX1_init_0 0 rfl rfl ?_
  refine fr_objInit (pc := 1) dX1_init_1 kw_739 (Nat.le_of_ble_eq_true rfl) (Nat.le_of_ble_eq_true rfl) ?_
  refine fr_aload_n (pc := 4) dX1_init_4 0 rfl rfl ?_
  refine fr_new (pc := 5) (ty := tyX3) dX1_init_5 rfl inX3 tyX3_ok kw_740 kw_718 kw_49 rfl rfl df_X3 ⟨Nat.le_of_ble_eq_true rfl, Nat.le_of_ble_eq_true rfl⟩ (show xs_104 = _ from rfl) ?_
  refine fr_dup (pc := 8) dX1_init_8 rfl ?_
  refine fr_bipush (pc := 9) (v := (8 : Int32)) dX1_init_9 (by decide) ?_
  refine fr_callC (pc := 11) (av := [.int (8 : Int32)]) (mc := 1) (ms := 8) dX1_init_11 yy_X3_init (Or.inl kw_741) rfl rfl (Nat.le_of_ble_eq_true rfl) ⟨Nat.le_of_ble_eq_true rfl, Nat.le_of_ble_eq_true rfl, Nat.le_of_ble_eq_true rfl, Nat.le_of_ble_eq_true rfl⟩ iX3_init_52 ?_
  refine fr_putR (pc := 14) dX1_init_14 fl_X1_14 ft_X1_0 ⟨rfl, rfl⟩ (fun _ => rfl) (fun _ => rfl) (by decide) rfl (by decide) (show xs_107 = _ from rfl) ?_
  refine fr_aload_n (pc := 17) dX1_init_17 0 rfl rfl ?_
  refine fr_new (pc := 18) (ty := tyX3) dX1_init_18 rfl inX3 tyX3_ok kw_740 kw_718 kw_49 rfl rfl df_X3 ⟨Nat.le_of_ble_eq_true rfl, Nat.le_of_ble_eq_true rfl⟩ (show xs_108 = _ from rfl) ?_
  refine fr_dup (pc := 21) dX1_init_21 rfl ?_
  refine fr_bipush (pc := 22) (v := (8 : Int32)) dX1_init_22 (by decide) ?_
  refine fr_callC (pc := 24) (av := [.int (8 : Int32)]) (mc := 1) (ms := 8) dX1_init_24 yy_X3_init (Or.inl kw_741) rfl rfl (Nat.le_of_ble_eq_true rfl) ⟨Nat.le_of_ble_eq_true rfl, Nat.le_of_ble_eq_true rfl, Nat.le_of_ble_eq_true rfl, Nat.le_of_ble_eq_true rfl⟩ iX3_init_54 ?_
  refine fr_putR (pc := 27) dX1_init_27 fl_X1_20 ft_X1_1 ⟨rfl, rfl⟩ (fun _ => rfl) (fun _ => rfl) (by decide) rfl (by decide) (show xs_111 = _ from rfl) ?_
  refine fr_aload_n (pc := 30) dX1_init_30 0 rfl rfl ?_
  refine fr_new (pc := 31) (ty := tyX3) dX1_init_31 rfl inX3 tyX3_ok kw_740 kw_718 kw_49 rfl rfl df_X3 ⟨Nat.le_of_ble_eq_true rfl, Nat.le_of_ble_eq_true rfl⟩ (show xs_112 = _ from rfl) ?_
  refine fr_dup (pc := 34) dX1_init_34 rfl ?_
  refine fr_bipush (pc := 35) (v := (8 : Int32)) dX1_init_35 (by decide) ?_
  refine fr_callC (pc := 37) (av := [.int (8 : Int32)]) (mc := 1) (ms := 8) dX1_init_37 yy_X3_init (Or.inl kw_741) rfl rfl (Nat.le_of_ble_eq_true rfl) ⟨Nat.le_of_ble_eq_true rfl, Nat.le_of_ble_eq_true rfl, Nat.le_of_ble_eq_true rfl, Nat.le_of_ble_eq_true rfl⟩ iX3_init_56 ?_
  refine fr_putR (pc := 40) dX1_init_40 fl_X1_23 ft_X1_2 ⟨rfl, rfl⟩ (fun _ => rfl) (fun _ => rfl) (by decide) rfl (by decide) (show xs_115 = _ from rfl) ?_
  refine fr_aload_n (pc := 43) dX1_init_43 0 rfl rfl ?_
  refine fr_iconst (pc := 44) (v := (0 : Int32)) dX1_init_44 (by decide) ?_
  refine fr_putIc false (pc := 45) dX1_init_45 fl_X1_26 ft_X1_3 ⟨rfl, rfl⟩ (by decide) rfl rfl (show hs_15 = _ from rfl) ?_
  exact fr_vret (X' := xs_0) (h' := hs_0) (pc := 48) dX1_init_48 rfl
set_option maxRecDepth 100000 in
set_option maxHeartbeats 4000000 in
theorem iX5_init_58 {g : fd_G} : fd_S g mX5_init 1 [.ref (g.2.2.2 + 58)] xs_117 hs_15 none xs_119 hs_15 1 8 := by
  refine fd_S.of (by decide +kernel) (Nat.le_of_ble_eq_true rfl) ?_
  refine fr_loc (lv' := [(0, .ref (g.2.2.2 + 58))]) [0] rfl ?_
  refine fr_aload_n (pc := 0) dX5_init_0 0 rfl rfl ?_
  refine fr_objInit (pc := 1) dX5_init_1 kw_748 (Nat.le_of_ble_eq_true rfl) (Nat.le_of_ble_eq_true rfl) ?_
  refine fr_aload_n (pc := 4) dX5_init_4 0 rfl rfl ?_
  refine fr_bipush (pc := 5) (v := (8 : Int32)) dX5_init_5 (by decide) ?_
  refine fr_newL (pc := 7) (n := 8) dX5_init_7 rfl (by decide) (by decide) (by decide) ⟨Nat.le_of_ble_eq_true rfl, Nat.le_of_ble_eq_true rfl⟩ (show xs_118 = _ from rfl) ?_
  refine fr_putR (pc := 9) dX5_init_9 fl_X5_9 ft_X5_0 ⟨rfl, rfl⟩ (fun _ => rfl) (fun _ => rfl) (by decide) rfl (by decide) (show xs_119 = _ from rfl) ?_
  exact fr_vret (X' := xs_0) (h' := hs_0) (pc := 12) dX5_init_12 rfl
set_option maxRecDepth 100000 in
set_option maxHeartbeats 4000000 in
theorem iX3_init_62 {g : fd_G} : fd_S g mX3_init 2 [.ref (g.2.2.2 + 62), .int (48 : Int32)] xs_123 hs_15 none xs_125 hs_15 1 48 := by
  refine fd_S.of (by decide +kernel) (Nat.le_of_ble_eq_true rfl) ?_
  refine fr_loc (lv' := [(0, .ref (g.2.2.2 + 62)), (1, .int (48 : Int32))]) [0, 1] rfl ?_
  refine fr_aload_n (pc := 0) dX3_init_0 0 rfl rfl ?_
  refine fr_objInit (pc := 1) dX3_init_1 kw_719 (Nat.le_of_ble_eq_true rfl) (Nat.le_of_ble_eq_true rfl) ?_
  refine fr_aload_n (pc := 4) dX3_init_4 0 rfl rfl ?_
  refine fr_iconst (pc := 5) (v := (0 : Int32)) dX3_init_5 (by decide) ?_
  refine fr_iload_n (pc := 6) dX3_init_6 1 rfl rfl ?_
  refine fr_max (pc := 7) dX3_init_7 kw_720 (Nat.le_of_ble_eq_true rfl) (Nat.le_of_ble_eq_true rfl) (Nat.le_of_ble_eq_true rfl) (Nat.le_of_ble_eq_true rfl) ?_
  refine fr_nmi (y := (48 : Int32)) (by decide) ?_
  refine fr_newI (pc := 10) (n := 48) dX3_init_10 rfl (by decide) (by decide) (by decide) ⟨Nat.le_of_ble_eq_true rfl, Nat.le_of_ble_eq_true rfl⟩ (show xs_124 = _ from rfl) ?_
  refine fr_putR (pc := 12) dX3_init_12 fl_X3_13 ft_X3_0 ⟨rfl, rfl⟩ (fun _ => rfl) (fun _ => rfl) (by decide) rfl (by decide) (show xs_125 = _ from rfl) ?_
  exact fr_vret (X' := xs_0) (h' := hs_0) (pc := 15) dX3_init_15 rfl
set_option maxRecDepth 100000 in
set_option maxHeartbeats 4000000 in
theorem iX4_init_61 {g : fd_G} : fd_S g mX4_init 3 [.ref (g.2.2.2 + 61)] xs_122 hs_15 none xs_126 hs_18 2 49 := by
  refine fd_S.of (by decide +kernel) (Nat.le_of_ble_eq_true rfl) ?_
  refine fr_loc (lv' := [(0, .ref (g.2.2.2 + 61))]) [0] rfl ?_
  refine fr_aload_n (pc := 0) dX4_init_0 0 rfl rfl ?_
  refine fr_objInit (pc := 1) dX4_init_1 kw_765 (Nat.le_of_ble_eq_true rfl) (Nat.le_of_ble_eq_true rfl) ?_
  refine fr_aload_n (pc := 4) dX4_init_4 0 rfl rfl ?_
  refine fr_new (pc := 5) (ty := tyX3) dX4_init_5 rfl inX3 tyX3_ok kw_766 kw_718 kw_49 rfl rfl df_X3 ⟨Nat.le_of_ble_eq_true rfl, Nat.le_of_ble_eq_true rfl⟩ (show xs_123 = _ from rfl) ?_
  refine fr_dup (pc := 8) dX4_init_8 rfl ?_
  refine fr_bipush (pc := 9) (v := (48 : Int32)) dX4_init_9 (by decide) ?_
  refine fr_callC (pc := 11) (av := [.int (48 : Int32)]) (mc := 1) (ms := 48) dX4_init_11 yy_X3_init (Or.inl kw_767) rfl rfl (Nat.le_of_ble_eq_true rfl) ⟨Nat.le_of_ble_eq_true rfl, Nat.le_of_ble_eq_true rfl, Nat.le_of_ble_eq_true rfl, Nat.le_of_ble_eq_true rfl⟩ iX3_init_62 ?_
  refine fr_putR (pc := 14) dX4_init_14 fl_X4_14 ft_X4_0 ⟨rfl, rfl⟩ (fun _ => rfl) (fun _ => rfl) (by decide) rfl (by decide) (show xs_126 = _ from rfl) ?_
  refine fr_aload_n (pc := 17) dX4_init_17 0 rfl rfl ?_
  refine fr_iconst (pc := 18) (v := (1 : Int32)) dX4_init_18 (by decide) ?_
  refine fr_putZc (x := true) (pc := 19) dX4_init_19 fl_X4_20 ft_X4_1 (by decide) rfl rfl (show hs_16 = _ from rfl) ?_
  refine fr_aload_n (pc := 22) dX4_init_22 0 rfl rfl ?_
  refine fr_iconst (pc := 23) (v := (0 : Int32)) dX4_init_23 (by decide) ?_
  refine fr_putIc false (pc := 24) dX4_init_24 fl_X4_24 ft_X4_2 ⟨rfl, rfl⟩ (by decide) rfl rfl (show hs_17 = _ from rfl) ?_
  refine fr_aload_n (pc := 27) dX4_init_27 0 rfl rfl ?_
  refine fr_iconst (pc := 28) (v := (0 : Int32)) dX4_init_28 (by decide) ?_
  refine fr_putIc false (pc := 29) dX4_init_29 fl_X4_28 ft_X4_3 ⟨rfl, rfl⟩ (by decide) rfl rfl (show hs_18 = _ from rfl) ?_
  exact fr_vret (X' := xs_0) (h' := hs_0) (pc := 32) dX4_init_32 rfl
set_option maxRecDepth 100000 in
set_option maxHeartbeats 4000000 in
theorem iX3_init_65 {g : fd_G} : fd_S g mX3_init 2 [.ref (g.2.2.2 + 65), .int (48 : Int32)] xs_129 hs_18 none xs_131 hs_18 1 48 := by
  refine fd_S.of (by decide +kernel) (Nat.le_of_ble_eq_true rfl) ?_
  refine fr_loc (lv' := [(0, .ref (g.2.2.2 + 65)), (1, .int (48 : Int32))]) [0, 1] rfl ?_
  refine fr_aload_n (pc := 0) dX3_init_0 0 rfl rfl ?_
  refine fr_objInit (pc := 1) dX3_init_1 kw_719 (Nat.le_of_ble_eq_true rfl) (Nat.le_of_ble_eq_true rfl) ?_
  refine fr_aload_n (pc := 4) dX3_init_4 0 rfl rfl ?_
  refine fr_iconst (pc := 5) (v := (0 : Int32)) dX3_init_5 (by decide) ?_
  refine fr_iload_n (pc := 6) dX3_init_6 1 rfl rfl ?_
  refine fr_max (pc := 7) dX3_init_7 kw_720 (Nat.le_of_ble_eq_true rfl) (Nat.le_of_ble_eq_true rfl) (Nat.le_of_ble_eq_true rfl) (Nat.le_of_ble_eq_true rfl) ?_
  refine fr_nmi (y := (48 : Int32)) (by decide) ?_
  refine fr_newI (pc := 10) (n := 48) dX3_init_10 rfl (by decide) (by decide) (by decide) ⟨Nat.le_of_ble_eq_true rfl, Nat.le_of_ble_eq_true rfl⟩ (show xs_130 = _ from rfl) ?_
  refine fr_putR (pc := 12) dX3_init_12 fl_X3_13 ft_X3_0 ⟨rfl, rfl⟩ (fun _ => rfl) (fun _ => rfl) (by decide) rfl (by decide) (show xs_131 = _ from rfl) ?_
  exact fr_vret (X' := xs_0) (h' := hs_0) (pc := 15) dX3_init_15 rfl
set_option maxRecDepth 100000 in
set_option maxHeartbeats 4000000 in
theorem iX4_init_64 {g : fd_G} : fd_S g mX4_init 3 [.ref (g.2.2.2 + 64)] xs_128 hs_18 none xs_132 hs_21 2 49 := by
  refine fd_S.of (by decide +kernel) (Nat.le_of_ble_eq_true rfl) ?_
  refine fr_loc (lv' := [(0, .ref (g.2.2.2 + 64))]) [0] rfl ?_
  refine fr_aload_n (pc := 0) dX4_init_0 0 rfl rfl ?_
  refine fr_objInit (pc := 1) dX4_init_1 kw_765 (Nat.le_of_ble_eq_true rfl) (Nat.le_of_ble_eq_true rfl) ?_
  refine fr_aload_n (pc := 4) dX4_init_4 0 rfl rfl ?_
  refine fr_new (pc := 5) (ty := tyX3) dX4_init_5 rfl inX3 tyX3_ok kw_766 kw_718 kw_49 rfl rfl df_X3 ⟨Nat.le_of_ble_eq_true rfl, Nat.le_of_ble_eq_true rfl⟩ (show xs_129 = _ from rfl) ?_
  refine fr_dup (pc := 8) dX4_init_8 rfl ?_
  refine fr_bipush (pc := 9) (v := (48 : Int32)) dX4_init_9 (by decide) ?_
  refine fr_callC (pc := 11) (av := [.int (48 : Int32)]) (mc := 1) (ms := 48) dX4_init_11 yy_X3_init (Or.inl kw_767) rfl rfl (Nat.le_of_ble_eq_true rfl) ⟨Nat.le_of_ble_eq_true rfl, Nat.le_of_ble_eq_true rfl, Nat.le_of_ble_eq_true rfl, Nat.le_of_ble_eq_true rfl⟩ iX3_init_65 ?_
  refine fr_putR (pc := 14) dX4_init_14 fl_X4_14 ft_X4_0 ⟨rfl, rfl⟩ (fun _ => rfl) (fun _ => rfl) (by decide) rfl (by decide) (show xs_132 = _ from rfl) ?_
  refine fr_aload_n (pc := 17) dX4_init_17 0 rfl rfl ?_
  refine fr_iconst (pc := 18) (v := (1 : Int32)) dX4_init_18 (by decide) ?_
  refine fr_putZc (x := true) (pc := 19) dX4_init_19 fl_X4_20 ft_X4_1 (by decide) rfl rfl (show hs_19 = _ from rfl) ?_
  refine fr_aload_n (pc := 22) dX4_init_22 0 rfl rfl ?_
  refine fr_iconst (pc := 23) (v := (0 : Int32)) dX4_init_23 (by decide) ?_
  refine fr_putIc false (pc := 24) dX4_init_24 fl_X4_24 ft_X4_2 ⟨rfl, rfl⟩ (by decide) rfl rfl (show hs_20 = _ from rfl) ?_
  refine fr_aload_n (pc := 27) dX4_init_27 0 rfl rfl ?_
  refine fr_iconst (pc := 28) (v := (0 : Int32)) dX4_init_28 (by decide) ?_
  refine fr_putIc false (pc := 29) dX4_init_29 fl_X4_28 ft_X4_3 ⟨rfl, rfl⟩ (by decide) rfl rfl (show hs_21 = _ from rfl) ?_
  exact fr_vret (X' := xs_0) (h' := hs_0) (pc := 32) dX4_init_32 rfl
set_option maxRecDepth 100000 in
set_option maxHeartbeats 4000000 in
theorem iX3_init_68 {g : fd_G} : fd_S g mX3_init 2 [.ref (g.2.2.2 + 68), .int (48 : Int32)] xs_135 hs_21 none xs_137 hs_21 1 48 := by
  refine fd_S.of (by decide +kernel) (Nat.le_of_ble_eq_true rfl) ?_
  refine fr_loc (lv' := [(0, .ref (g.2.2.2 + 68)), (1, .int (48 : Int32))]) [0, 1] rfl ?_
  refine fr_aload_n (pc := 0) dX3_init_0 0 rfl rfl ?_
  refine fr_objInit (pc := 1) dX3_init_1 kw_719 (Nat.le_of_ble_eq_true rfl) (Nat.le_of_ble_eq_true rfl) ?_
  refine fr_aload_n (pc := 4) dX3_init_4 0 rfl rfl ?_
  refine fr_iconst (pc := 5) (v := (0 : Int32)) dX3_init_5 (by decide) ?_
  refine fr_iload_n (pc := 6) dX3_init_6 1 rfl rfl ?_
  refine fr_max (pc := 7) dX3_init_7 kw_720 (Nat.le_of_ble_eq_true rfl) (Nat.le_of_ble_eq_true rfl) (Nat.le_of_ble_eq_true rfl) (Nat.le_of_ble_eq_true rfl) ?_
  refine fr_nmi (y := (48 : Int32)) (by decide) ?_
  refine fr_newI (pc := 10) (n := 48) dX3_init_10 rfl (by decide) (by decide) (by decide) ⟨Nat.le_of_ble_eq_true rfl, Nat.le_of_ble_eq_true rfl⟩ (show xs_136 = _ from rfl) ?_
  refine fr_putR (pc := 12) dX3_init_12 fl_X3_13 ft_X3_0 ⟨rfl, rfl⟩ (fun _ => rfl) (fun _ => rfl) (by decide) rfl (by decide) (show xs_137 = _ from rfl) ?_
  exact fr_vret (X' := xs_0) (h' := hs_0) (pc := 15) dX3_init_15 rfl
set_option maxRecDepth 100000 in
set_option maxHeartbeats 4000000 in
theorem iX4_init_67 {g : fd_G} : fd_S g mX4_init 3 [.ref (g.2.2.2 + 67)] xs_134 hs_21 none xs_138 hs_24 2 49 := by
  refine fd_S.of (by decide +kernel) (Nat.le_of_ble_eq_true rfl) ?_
  refine fr_loc (lv' := [(0, .ref (g.2.2.2 + 67))]) [0] rfl ?_
  refine fr_aload_n (pc := 0) dX4_init_0 0 rfl rfl ?_
  refine fr_objInit (pc := 1) dX4_init_1 kw_765 (Nat.le_of_ble_eq_true rfl) (Nat.le_of_ble_eq_true rfl) ?_
  refine fr_aload_n (pc := 4) dX4_init_4 0 rfl rfl ?_
  refine fr_new (pc := 5) (ty := tyX3) dX4_init_5 rfl inX3 tyX3_ok kw_766 kw_718 kw_49 rfl rfl df_X3 ⟨Nat.le_of_ble_eq_true rfl, Nat.le_of_ble_eq_true rfl⟩ (show xs_135 = _ from rfl) ?_
  refine fr_dup (pc := 8) dX4_init_8 rfl ?_
  refine fr_bipush (pc := 9) (v := (48 : Int32)) dX4_init_9 (by decide) ?_
  refine fr_callC (pc := 11) (av := [.int (48 : Int32)]) (mc := 1) (ms := 48) dX4_init_11 yy_X3_init (Or.inl kw_767) rfl rfl (Nat.le_of_ble_eq_true rfl) ⟨Nat.le_of_ble_eq_true rfl, Nat.le_of_ble_eq_true rfl, Nat.le_of_ble_eq_true rfl, Nat.le_of_ble_eq_true rfl⟩ iX3_init_68 ?_
  refine fr_putR (pc := 14) dX4_init_14 fl_X4_14 ft_X4_0 ⟨rfl, rfl⟩ (fun _ => rfl) (fun _ => rfl) (by decide) rfl (by decide) (show xs_138 = _ from rfl) ?_
  refine fr_aload_n (pc := 17) dX4_init_17 0 rfl rfl ?_
  refine fr_iconst (pc := 18) (v := (1 : Int32)) dX4_init_18 (by decide) ?_
  refine fr_putZc (x := true) (pc := 19) dX4_init_19 fl_X4_20 ft_X4_1 (by decide) rfl rfl (show hs_22 = _ from rfl) ?_
  refine fr_aload_n (pc := 22) dX4_init_22 0 rfl rfl ?_
  refine fr_iconst (pc := 23) (v := (0 : Int32)) dX4_init_23 (by decide) ?_
  refine fr_putIc false (pc := 24) dX4_init_24 fl_X4_24 ft_X4_2 ⟨rfl, rfl⟩ (by decide) rfl rfl (show hs_23 = _ from rfl) ?_
  refine fr_aload_n (pc := 27) dX4_init_27 0 rfl rfl ?_
  refine fr_iconst (pc := 28) (v := (0 : Int32)) dX4_init_28 (by decide) ?_
  refine fr_putIc false (pc := 29) dX4_init_29 fl_X4_28 ft_X4_3 ⟨rfl, rfl⟩ (by decide) rfl rfl (show hs_24 = _ from rfl) ?_
  exact fr_vret (X' := xs_0) (h' := hs_0) (pc := 32) dX4_init_32 rfl
set_option maxRecDepth 100000 in
set_option maxHeartbeats 4000000 in
theorem iX3_init_71 {g : fd_G} : fd_S g mX3_init 2 [.ref (g.2.2.2 + 71), .int (48 : Int32)] xs_141 hs_24 none xs_143 hs_24 1 48 := by
  refine fd_S.of (by decide +kernel) (Nat.le_of_ble_eq_true rfl) ?_
  refine fr_loc (lv' := [(0, .ref (g.2.2.2 + 71)), (1, .int (48 : Int32))]) [0, 1] rfl ?_
  refine fr_aload_n (pc := 0) dX3_init_0 0 rfl rfl ?_
  refine fr_objInit (pc := 1) dX3_init_1 kw_719 (Nat.le_of_ble_eq_true rfl) (Nat.le_of_ble_eq_true rfl) ?_
  refine fr_aload_n (pc := 4) dX3_init_4 0 rfl rfl ?_
  refine fr_iconst (pc := 5) (v := (0 : Int32)) dX3_init_5 (by decide) ?_
  refine fr_iload_n (pc := 6) dX3_init_6 1 rfl rfl ?_
  refine fr_max (pc := 7) dX3_init_7 kw_720 (Nat.le_of_ble_eq_true rfl) (Nat.le_of_ble_eq_true rfl) (Nat.le_of_ble_eq_true rfl) (Nat.le_of_ble_eq_true rfl) ?_
  refine fr_nmi (y := (48 : Int32)) (by decide) ?_
  refine fr_newI (pc := 10) (n := 48) dX3_init_10 rfl (by decide) (by decide) (by decide) ⟨Nat.le_of_ble_eq_true rfl, Nat.le_of_ble_eq_true rfl⟩ (show xs_142 = _ from rfl) ?_
  refine fr_putR (pc := 12) dX3_init_12 fl_X3_13 ft_X3_0 ⟨rfl, rfl⟩ (fun _ => rfl) (fun _ => rfl) (by decide) rfl (by decide) (show xs_143 = _ from rfl) ?_
  exact fr_vret (X' := xs_0) (h' := hs_0) (pc := 15) dX3_init_15 rfl
set_option maxRecDepth 100000 in
set_option maxHeartbeats 4000000 in
theorem iX4_init_70 {g : fd_G} : fd_S g mX4_init 3 [.ref (g.2.2.2 + 70)] xs_140 hs_24 none xs_144 hs_27 2 49 := by
  refine fd_S.of (by decide +kernel) (Nat.le_of_ble_eq_true rfl) ?_
  refine fr_loc (lv' := [(0, .ref (g.2.2.2 + 70))]) [0] rfl ?_
  refine fr_aload_n (pc := 0) dX4_init_0 0 rfl rfl ?_
  refine fr_objInit (pc := 1) dX4_init_1 kw_765 (Nat.le_of_ble_eq_true rfl) (Nat.le_of_ble_eq_true rfl) ?_
  refine fr_aload_n (pc := 4) dX4_init_4 0 rfl rfl ?_
  refine fr_new (pc := 5) (ty := tyX3) dX4_init_5 rfl inX3 tyX3_ok kw_766 kw_718 kw_49 rfl rfl df_X3 ⟨Nat.le_of_ble_eq_true rfl, Nat.le_of_ble_eq_true rfl⟩ (show xs_141 = _ from rfl) ?_
  refine fr_dup (pc := 8) dX4_init_8 rfl ?_
  refine fr_bipush (pc := 9) (v := (48 : Int32)) dX4_init_9 (by decide) ?_
  refine fr_callC (pc := 11) (av := [.int (48 : Int32)]) (mc := 1) (ms := 48) dX4_init_11 yy_X3_init (Or.inl kw_767) rfl rfl (Nat.le_of_ble_eq_true rfl) ⟨Nat.le_of_ble_eq_true rfl, Nat.le_of_ble_eq_true rfl, Nat.le_of_ble_eq_true rfl, Nat.le_of_ble_eq_true rfl⟩ iX3_init_71 ?_
  refine fr_putR (pc := 14) dX4_init_14 fl_X4_14 ft_X4_0 ⟨rfl, rfl⟩ (fun _ => rfl) (fun _ => rfl) (by decide) rfl (by decide) (show xs_144 = _ from rfl) ?_
  refine fr_aload_n (pc := 17) dX4_init_17 0 rfl rfl ?_
  refine fr_iconst (pc := 18) (v := (1 : Int32)) dX4_init_18 (by decide) ?_
  refine fr_putZc (x := true) (pc := 19) dX4_init_19 fl_X4_20 ft_X4_1 (by decide) rfl rfl (show hs_25 = _ from rfl) ?_
  refine fr_aload_n (pc := 22) dX4_init_22 0 rfl rfl ?_
  refine fr_iconst (pc := 23) (v := (0 : Int32)) dX4_init_23 (by decide) ?_
  refine fr_putIc false (pc := 24) dX4_init_24 fl_X4_24 ft_X4_2 ⟨rfl, rfl⟩ (by decide) rfl rfl (show hs_26 = _ from rfl) ?_
  refine fr_aload_n (pc := 27) dX4_init_27 0 rfl rfl ?_
  refine fr_iconst (pc := 28) (v := (0 : Int32)) dX4_init_28 (by decide) ?_
  refine fr_putIc false (pc := 29) dX4_init_29 fl_X4_28 ft_X4_3 ⟨rfl, rfl⟩ (by decide) rfl rfl (show hs_27 = _ from rfl) ?_
  exact fr_vret (X' := xs_0) (h' := hs_0) (pc := 32) dX4_init_32 rfl
set_option maxRecDepth 100000 in
set_option maxHeartbeats 4000000 in
theorem iX8_init_0 {g : fd_G} : fd_S g mX8_init 5 [.ref (g.2.2.2 + 0)] xs_1 hs_0 none xs_146 hs_28 72 656 := by
  refine fd_S.of (by decide +kernel) (Nat.le_of_ble_eq_true rfl) ?_
  refine fr_loc (lv' := [(0, .ref (g.2.2.2 + 0))]) [0] rfl ?_
  refine fr_aload_n (pc := 0) dX8_init_0 0 rfl rfl ?_
  refine fr_objInit (pc := 1) dX8_init_1 kw_713 (Nat.le_of_ble_eq_true rfl) (Nat.le_of_ble_eq_true rfl) ?_
  refine fr_aload_n (pc := 4) dX8_init_4 0 rfl rfl ?_
  refine fr_iconst (pc := 5) (v := (3 : Int32)) dX8_init_5 (by decide) ?_
  refine fr_anew (pc := 6) (t := 3) (n := 3) rfl (by decide) dX8_init_6 kw_714 (fun U q => q.2.2.1) (by decide) (by decide) (by decide) ⟨Nat.le_of_ble_eq_true rfl, Nat.le_of_ble_eq_true rfl⟩ (show xs_2 = _ from rfl) ?_
  refine fr_dup (pc := 9) dX8_init_9 rfl ?_
  refine fr_iconst (pc := 10) (v := (0 : Int32)) dX8_init_10 (by decide) ?_
  refine fr_new (pc := 11) (ty := tyX6) dX8_init_11 rfl inX6 tyX6_ok kw_714 kw_715 kw_450 rfl rfl df_X6 ⟨Nat.le_of_ble_eq_true rfl, Nat.le_of_ble_eq_true rfl⟩ (show xs_3 = _ from rfl) ?_
  refine fr_dup (pc := 14) dX8_init_14 rfl ?_
  refine fr_bipush (pc := 15) (v := (23 : Int32)) dX8_init_15 (by decide) ?_
  refine fr_callC (pc := 17) (av := [.int (23 : Int32)]) (mc := 2) (ms := 24) dX8_init_17 yy_X6_init (Or.inl kw_724) rfl rfl (Nat.le_of_ble_eq_true rfl) ⟨Nat.le_of_ble_eq_true rfl, Nat.le_of_ble_eq_true rfl, Nat.le_of_ble_eq_true rfl, Nat.le_of_ble_eq_true rfl⟩ iX6_init_2 ?_
  refine fr_aast (pc := 20) (t := 3) (n := 3) (r := (RX6, TX6, 3)) rfl (by decide) dX8_init_20 (by decide) rfl (by decide) rfl rfl (by decide) (show xs_8 = _ from rfl) ?_
  refine fr_dup (pc := 21) dX8_init_21 rfl ?_
  refine fr_iconst (pc := 22) (v := (1 : Int32)) dX8_init_22 (by decide) ?_
  refine fr_new (pc := 23) (ty := tyX6) dX8_init_23 rfl inX6 tyX6_ok kw_714 kw_715 kw_450 rfl rfl df_X6 ⟨Nat.le_of_ble_eq_true rfl, Nat.le_of_ble_eq_true rfl⟩ (show xs_9 = _ from rfl) ?_
  refine fr_dup (pc := 26) dX8_init_26 rfl ?_
  refine fr_bipush (pc := 27) (v := (40 : Int32)) dX8_init_27 (by decide) ?_
  refine fr_callC (pc := 29) (av := [.int (40 : Int32)]) (mc := 2) (ms := 41) dX8_init_29 yy_X6_init (Or.inl kw_724) rfl rfl (Nat.le_of_ble_eq_true rfl) ⟨Nat.le_of_ble_eq_true rfl, Nat.le_of_ble_eq_true rfl, Nat.le_of_ble_eq_true rfl, Nat.le_of_ble_eq_true rfl⟩ iX6_init_5 ?_
  refine fr_aast (pc := 32) (t := 3) (n := 3) (r := (RX6, TX6, 3)) rfl (by decide) dX8_init_32 (by decide) rfl (by decide) rfl rfl (by decide) (show xs_14 = _ from rfl) ?_
  refine fr_dup (pc := 33) dX8_init_33 rfl ?_
  refine fr_iconst (pc := 34) (v := (2 : Int32)) dX8_init_34 (by decide) ?_
  refine fr_new (pc := 35) (ty := tyX6) dX8_init_35 rfl inX6 tyX6_ok kw_714 kw_715 kw_450 rfl rfl df_X6 ⟨Nat.le_of_ble_eq_true rfl, Nat.le_of_ble_eq_true rfl⟩ (show xs_15 = _ from rfl) ?_
  refine fr_dup (pc := 38) dX8_init_38 rfl ?_
  refine fr_bipush (pc := 39) (v := (71 : Int32)) dX8_init_39 (by decide) ?_
  refine fr_callC (pc := 41) (av := [.int (71 : Int32)]) (mc := 2) (ms := 72) dX8_init_41 yy_X6_init (Or.inl kw_724) rfl rfl (Nat.le_of_ble_eq_true rfl) ⟨Nat.le_of_ble_eq_true rfl, Nat.le_of_ble_eq_true rfl, Nat.le_of_ble_eq_true rfl, Nat.le_of_ble_eq_true rfl⟩ iX6_init_8 ?_
  refine fr_aast (pc := 44) (t := 3) (n := 3) (r := (RX6, TX6, 3)) rfl (by decide) dX8_init_44 (by decide) rfl (by decide) rfl rfl (by decide) (show xs_20 = _ from rfl) ?_
  refine fr_putR (pc := 45) dX8_init_45 fl_X8_14 ft_X8_0 ⟨rfl, rfl⟩ (fun _ => rfl) (fun _ => rfl) (by decide) rfl (by decide) (show xs_21 = _ from rfl) ?_
  refine fr_aload_n (pc := 48) dX8_init_48 0 rfl rfl ?_
  refine fr_new (pc := 49) (ty := tyX7) dX8_init_49 rfl inX7 tyX7_ok kw_727 kw_728 kw_185 rfl rfl df_X7 ⟨Nat.le_of_ble_eq_true rfl, Nat.le_of_ble_eq_true rfl⟩ (show xs_22 = _ from rfl) ?_
  refine fr_dup (pc := 52) dX8_init_52 rfl ?_
  refine fr_callC (pc := 53) (av := []) (mc := 36) (ms := 192) dX8_init_53 yy_X7_init (Or.inr (List.mem_of_getElem? (i := 0) rfl)) rfl rfl (Nat.le_of_ble_eq_true rfl) ⟨Nat.le_of_ble_eq_true rfl, Nat.le_of_ble_eq_true rfl, Nat.le_of_ble_eq_true rfl, Nat.le_of_ble_eq_true rfl⟩ iX7_init_11 ?_
  refine fr_putR (pc := 56) dX8_init_56 fl_X8_21 ft_X8_1 ⟨rfl, rfl⟩ (fun _ => rfl) (fun _ => rfl) (by decide) rfl (by decide) (show xs_95 = _ from rfl) ?_
  refine fr_aload_n (pc := 59) dX8_init_59 0 rfl rfl ?_
  refine fr_aload_n (pc := 60) dX8_init_60 0 rfl rfl ?_
  refine fr_getR (pc := 61) dX8_init_61 fl_X8_21 (by decide) rfl rfl ?_
  refine fr_getR (pc := 64) dX8_init_64 fl_X8_25 (by decide) rfl rfl ?_
  refine fr_putR (pc := 67) dX8_init_67 fl_X8_29 ft_X8_2 ⟨rfl, rfl⟩ (fun _ => rfl) (fun _ => rfl) (by decide) rfl (by decide) (show xs_96 = _ from rfl) ?_
  refine fr_aload_n (pc := 70) dX8_init_70 0 rfl rfl ?_
  refine fr_new (pc := 71) (ty := tyX0) dX8_init_71 rfl inX0 tyX0_ok kw_754 kw_755 kw_172 rfl rfl df_X0 ⟨Nat.le_of_ble_eq_true rfl, Nat.le_of_ble_eq_true rfl⟩ (show xs_97 = _ from rfl) ?_
  refine fr_dup (pc := 74) dX8_init_74 rfl ?_
  refine fr_callC (pc := 75) (av := []) (mc := 2) (ms := 46) dX8_init_75 yy_X0_init (Or.inr (List.mem_of_getElem? (i := 4) rfl)) rfl rfl (Nat.le_of_ble_eq_true rfl) ⟨Nat.le_of_ble_eq_true rfl, Nat.le_of_ble_eq_true rfl, Nat.le_of_ble_eq_true rfl, Nat.le_of_ble_eq_true rfl⟩ iX0_init_48 ?_
  refine fr_putR (pc := 78) dX8_init_78 fl_X8_33 ft_X8_3 ⟨rfl, rfl⟩ (fun _ => rfl) (fun _ => rfl) (by decide) rfl (by decide) (show xs_102 = _ from rfl) ?_
  refine fr_aload_n (pc := 81) dX8_init_81 0 rfl rfl ?_
  refine fr_new (pc := 82) (ty := tyX1) dX8_init_82 rfl inX1 tyX1_ok kw_761 kw_738 kw_206 rfl rfl df_X1 ⟨Nat.le_of_ble_eq_true rfl, Nat.le_of_ble_eq_true rfl⟩ (show xs_103 = _ from rfl) ?_
  refine fr_dup (pc := 85) dX8_init_85 rfl ?_
  refine fr_callC (pc := 86) (av := []) (mc := 6) (ms := 27) dX8_init_86 yy_X1_init (Or.inr (List.mem_of_getElem? (i := 5) rfl)) rfl rfl (Nat.le_of_ble_eq_true rfl) ⟨Nat.le_of_ble_eq_true rfl, Nat.le_of_ble_eq_true rfl, Nat.le_of_ble_eq_true rfl, Nat.le_of_ble_eq_true rfl⟩ iX1_init_51 ?_
  refine fr_putR (pc := 89) dX8_init_89 fl_X8_40 ft_X8_4 ⟨rfl, rfl⟩ (fun _ => rfl) (fun _ => rfl) (by decide) rfl (by decide) (show xs_116 = _ from rfl) ?_
  refine fr_aload_n (pc := 92) dX8_init_92 0 rfl rfl ?_
  refine fr_new (pc := 93) (ty := tyX5) dX8_init_93 rfl inX5 tyX5_ok kw_762 kw_747 kw_85 rfl rfl df_X5 ⟨Nat.le_of_ble_eq_true rfl, Nat.le_of_ble_eq_true rfl⟩ (show xs_117 = _ from rfl) ?_
  refine fr_dup (pc := 96) dX8_init_96 rfl ?_
  refine fr_callC (pc := 97) (av := []) (mc := 1) (ms := 8) dX8_init_97 yy_X5_init (Or.inr (List.mem_of_getElem? (i := 6) rfl)) rfl rfl (Nat.le_of_ble_eq_true rfl) ⟨Nat.le_of_ble_eq_true rfl, Nat.le_of_ble_eq_true rfl, Nat.le_of_ble_eq_true rfl, Nat.le_of_ble_eq_true rfl⟩ iX5_init_58 ?_
  refine fr_putR (pc := 100) dX8_init_100 fl_X8_47 ft_X8_5 ⟨rfl, rfl⟩ (fun _ => rfl) (fun _ => rfl) (by decide) rfl (by decide) (show xs_120 = _ from rfl) ?_
  refine fr_aload_n (pc := 103) dX8_init_103 0 rfl rfl ?_
  refine fr_iconst (pc := 104) (v := (4 : Int32)) dX8_init_104 (by decide) ?_
  refine fr_anew (pc := 105) (t := 4) (n := 4) rfl (by decide) dX8_init_105 kw_763 (fun U q => q.2.2.2) (by decide) (by decide) (by decide) ⟨Nat.le_of_ble_eq_true rfl, Nat.le_of_ble_eq_true rfl⟩ (show xs_121 = _ from rfl) ?_
  refine fr_dup (pc := 108) dX8_init_108 rfl ?_
  refine fr_iconst (pc := 109) (v := (0 : Int32)) dX8_init_109 (by decide) ?_
  refine fr_new (pc := 110) (ty := tyX4) dX8_init_110 rfl inX4 tyX4_ok kw_763 kw_764 kw_131 rfl rfl df_X4 ⟨Nat.le_of_ble_eq_true rfl, Nat.le_of_ble_eq_true rfl⟩ (show xs_122 = _ from rfl) ?_
  refine fr_dup (pc := 113) dX8_init_113 rfl ?_
  refine fr_callC (pc := 114) (av := []) (mc := 2) (ms := 49) dX8_init_114 yy_X4_init (Or.inr (List.mem_of_getElem? (i := 7) rfl)) rfl rfl (Nat.le_of_ble_eq_true rfl) ⟨Nat.le_of_ble_eq_true rfl, Nat.le_of_ble_eq_true rfl, Nat.le_of_ble_eq_true rfl, Nat.le_of_ble_eq_true rfl⟩ iX4_init_61 ?_
  refine fr_aast (pc := 117) (t := 4) (n := 4) (r := (RX4, TX4, 4)) rfl (by decide) dX8_init_117 (by decide) rfl (by decide) rfl rfl (by decide) (show xs_127 = _ from rfl) ?_
  refine fr_dup (pc := 118) dX8_init_118 rfl ?_
  refine fr_iconst (pc := 119) (v := (1 : Int32)) dX8_init_119 (by decide) ?_
  refine fr_new (pc := 120) (ty := tyX4) dX8_init_120 rfl inX4 tyX4_ok kw_763 kw_764 kw_131 rfl rfl df_X4 ⟨Nat.le_of_ble_eq_true rfl, Nat.le_of_ble_eq_true rfl⟩ (show xs_128 = _ from rfl) ?_
  refine fr_dup (pc := 123) dX8_init_123 rfl ?_
  refine fr_callC (pc := 124) (av := []) (mc := 2) (ms := 49) dX8_init_124 yy_X4_init (Or.inr (List.mem_of_getElem? (i := 7) rfl)) rfl rfl (Nat.le_of_ble_eq_true rfl) ⟨Nat.le_of_ble_eq_true rfl, Nat.le_of_ble_eq_true rfl, Nat.le_of_ble_eq_true rfl, Nat.le_of_ble_eq_true rfl⟩ iX4_init_64 ?_
  refine fr_aast (pc := 127) (t := 4) (n := 4) (r := (RX4, TX4, 4)) rfl (by decide) dX8_init_127 (by decide) rfl (by decide) rfl rfl (by decide) (show xs_133 = _ from rfl) ?_
  refine fr_dup (pc := 128) dX8_init_128 rfl ?_
  refine fr_iconst (pc := 129) (v := (2 : Int32)) dX8_init_129 (by decide) ?_
  refine fr_new (pc := 130) (ty := tyX4) dX8_init_130 rfl inX4 tyX4_ok kw_763 kw_764 kw_131 rfl rfl df_X4 ⟨Nat.le_of_ble_eq_true rfl, Nat.le_of_ble_eq_true rfl⟩ (show xs_134 = _ from rfl) ?_
  refine fr_dup (pc := 133) dX8_init_133 rfl ?_
  refine fr_callC (pc := 134) (av := []) (mc := 2) (ms := 49) dX8_init_134 yy_X4_init (Or.inr (List.mem_of_getElem? (i := 7) rfl)) rfl rfl (Nat.le_of_ble_eq_true rfl) ⟨Nat.le_of_ble_eq_true rfl, Nat.le_of_ble_eq_true rfl, Nat.le_of_ble_eq_true rfl, Nat.le_of_ble_eq_true rfl⟩ iX4_init_67 ?_
  refine fr_aast (pc := 137) (t := 4) (n := 4) (r := (RX4, TX4, 4)) rfl (by decide) dX8_init_137 (by decide) rfl (by decide) rfl rfl (by decide) (show xs_139 = _ from rfl) ?_
  refine fr_dup (pc := 138) dX8_init_138 rfl ?_
  refine fr_iconst (pc := 139) (v := (3 : Int32)) dX8_init_139 (by decide) ?_
  refine fr_new (pc := 140) (ty := tyX4) dX8_init_140 rfl inX4 tyX4_ok kw_763 kw_764 kw_131 rfl rfl df_X4 ⟨Nat.le_of_ble_eq_true rfl, Nat.le_of_ble_eq_true rfl⟩ (show xs_140 = _ from rfl) ?_
  refine fr_dup (pc := 143) dX8_init_143 rfl ?_
  refine fr_callC (pc := 144) (av := []) (mc := 2) (ms := 49) dX8_init_144 yy_X4_init (Or.inr (List.mem_of_getElem? (i := 7) rfl)) rfl rfl (Nat.le_of_ble_eq_true rfl) ⟨Nat.le_of_ble_eq_true rfl, Nat.le_of_ble_eq_true rfl, Nat.le_of_ble_eq_true rfl, Nat.le_of_ble_eq_true rfl⟩ iX4_init_70 ?_
  refine fr_aast (pc := 147) (t := 4) (n := 4) (r := (RX4, TX4, 4)) rfl (by decide) dX8_init_147 (by decide) rfl (by decide) rfl rfl (by decide) (show xs_145 = _ from rfl) ?_
  refine fr_putR (pc := 148) dX8_init_148 fl_X8_54 ft_X8_6 ⟨rfl, rfl⟩ (fun _ => rfl) (fun _ => rfl) (by decide) rfl (by decide) (show xs_146 = _ from rfl) ?_
  refine fr_aload_n (pc := 151) dX8_init_151 0 rfl rfl ?_
  refine fr_iconst (pc := 152) (v := (0 : Int32)) dX8_init_152 (by decide) ?_
  refine fr_putIc false (pc := 153) dX8_init_153 fl_X8_58 ft_X8_7 ⟨rfl, rfl⟩ (by decide) rfl rfl (show hs_28 = _ from rfl) ?_
  exact fr_vret (X' := xs_0) (h' := hs_0) (pc := 156) dX8_init_156 rfl
set_option maxRecDepth 100000 in
set_option maxHeartbeats 4000000 in
theorem iX9_init_73 {g : fd_G} : fd_S g mX9_init 1 [.ref (g.2.2.2 + 73)] xs_147 hs_28 none xs_195 hs_29 24 703 := by
  refine fd_S.of (by decide +kernel) (Nat.le_of_ble_eq_true rfl) ?_
  refine fr_loc (lv' := [(0, .ref (g.2.2.2 + 73))]) [0] rfl ?_
  refine fr_aload_n (pc := 0) dX9_init_0 0 rfl rfl ?_
  refine fr_objInit (pc := 1) dX9_init_1 kw_770 (Nat.le_of_ble_eq_true rfl) (Nat.le_of_ble_eq_true rfl) ?_
  refine fr_aload_n (pc := 4) dX9_init_4 0 rfl rfl ?_
  refine fr_iconst (pc := 5) (v := (3 : Int32)) dX9_init_5 (by decide) ?_
  refine fr_newI (pc := 6) (n := 3) dX9_init_6 rfl (by decide) (by decide) (by decide) ⟨Nat.le_of_ble_eq_true rfl, Nat.le_of_ble_eq_true rfl⟩ (show xs_148 = _ from rfl) ?_
  refine fr_putR (pc := 8) dX9_init_8 fl_X9_7 ft_X9_0 ⟨rfl, rfl⟩ (fun _ => rfl) (fun _ => rfl) (by decide) rfl (by decide) (show xs_149 = _ from rfl) ?_
  refine fr_aload_n (pc := 11) dX9_init_11 0 rfl rfl ?_
  refine fr_sipush (pc := 12) (v := (213 : Int32)) dX9_init_12 (by decide) ?_
  refine fr_newI (pc := 15) (n := 213) dX9_init_15 rfl (by decide) (by decide) (by decide) ⟨Nat.le_of_ble_eq_true rfl, Nat.le_of_ble_eq_true rfl⟩ (show xs_150 = _ from rfl) ?_
  refine fr_putR (pc := 17) dX9_init_17 fl_X9_13 ft_X9_1 ⟨rfl, rfl⟩ (fun _ => rfl) (fun _ => rfl) (by decide) rfl (by decide) (show xs_151 = _ from rfl) ?_
  refine fr_aload_n (pc := 20) dX9_init_20 0 rfl rfl ?_
  refine fr_bipush (pc := 21) (v := (9 : Int32)) dX9_init_21 (by decide) ?_
  refine fr_newI (pc := 23) (n := 9) dX9_init_23 rfl (by decide) (by decide) (by decide) ⟨Nat.le_of_ble_eq_true rfl, Nat.le_of_ble_eq_true rfl⟩ (show xs_152 = _ from rfl) ?_
  refine fr_putR (pc := 25) dX9_init_25 fl_X9_16 ft_X9_3 ⟨rfl, rfl⟩ (fun _ => rfl) (fun _ => rfl) (by decide) rfl (by decide) (show xs_153 = _ from rfl) ?_
  refine fr_aload_n (pc := 28) dX9_init_28 0 rfl rfl ?_
  refine fr_bipush (pc := 29) (v := (9 : Int32)) dX9_init_29 (by decide) ?_
  refine fr_newI (pc := 31) (n := 9) dX9_init_31 rfl (by decide) (by decide) (by decide) ⟨Nat.le_of_ble_eq_true rfl, Nat.le_of_ble_eq_true rfl⟩ (show xs_154 = _ from rfl) ?_
  refine fr_putR (pc := 33) dX9_init_33 fl_X9_19 ft_X9_4 ⟨rfl, rfl⟩ (fun _ => rfl) (fun _ => rfl) (by decide) rfl (by decide) (show xs_155 = _ from rfl) ?_
  refine fr_aload_n (pc := 36) dX9_init_36 0 rfl rfl ?_
  refine fr_bipush (pc := 37) (v := (41 : Int32)) dX9_init_37 (by decide) ?_
  refine fr_newI (pc := 39) (n := 41) dX9_init_39 rfl (by decide) (by decide) (by decide) ⟨Nat.le_of_ble_eq_true rfl, Nat.le_of_ble_eq_true rfl⟩ (show xs_156 = _ from rfl) ?_
  refine fr_putR (pc := 41) dX9_init_41 fl_X9_22 ft_X9_6 ⟨rfl, rfl⟩ (fun _ => rfl) (fun _ => rfl) (by decide) rfl (by decide) (show xs_157 = _ from rfl) ?_
  refine fr_aload_n (pc := 44) dX9_init_44 0 rfl rfl ?_
  refine fr_bipush (pc := 45) (v := (10 : Int32)) dX9_init_45 (by decide) ?_
  refine fr_newI (pc := 47) (n := 10) dX9_init_47 rfl (by decide) (by decide) (by decide) ⟨Nat.le_of_ble_eq_true rfl, Nat.le_of_ble_eq_true rfl⟩ (show xs_158 = _ from rfl) ?_
  refine fr_putR (pc := 49) dX9_init_49 fl_X9_25 ft_X9_8 ⟨rfl, rfl⟩ (fun _ => rfl) (fun _ => rfl) (by decide) rfl (by decide) (show xs_159 = _ from rfl) ?_
  refine fr_aload_n (pc := 52) dX9_init_52 0 rfl rfl ?_
  refine fr_bipush (pc := 53) (v := (10 : Int32)) dX9_init_53 (by decide) ?_
  refine fr_newI (pc := 55) (n := 10) dX9_init_55 rfl (by decide) (by decide) (by decide) ⟨Nat.le_of_ble_eq_true rfl, Nat.le_of_ble_eq_true rfl⟩ (show xs_160 = _ from rfl) ?_
  refine fr_putR (pc := 57) dX9_init_57 fl_X9_28 ft_X9_9 ⟨rfl, rfl⟩ (fun _ => rfl) (fun _ => rfl) (by decide) rfl (by decide) (show xs_161 = _ from rfl) ?_
  refine fr_aload_n (pc := 60) dX9_init_60 0 rfl rfl ?_
  refine fr_bipush (pc := 61) (v := (10 : Int32)) dX9_init_61 (by decide) ?_
  refine fr_newI (pc := 63) (n := 10) dX9_init_63 rfl (by decide) (by decide) (by decide) ⟨Nat.le_of_ble_eq_true rfl, Nat.le_of_ble_eq_true rfl⟩ (show xs_162 = _ from rfl) ?_
  refine fr_putR (pc := 65) dX9_init_65 fl_X9_31 ft_X9_10 ⟨rfl, rfl⟩ (fun _ => rfl) (fun _ => rfl) (by decide) rfl (by decide) (show xs_163 = _ from rfl) ?_
  refine fr_aload_n (pc := 68) dX9_init_68 0 rfl rfl ?_
  refine fr_bipush (pc := 69) (v := (10 : Int32)) dX9_init_69 (by decide) ?_
  refine fr_newI (pc := 71) (n := 10) dX9_init_71 rfl (by decide) (by decide) (by decide) ⟨Nat.le_of_ble_eq_true rfl, Nat.le_of_ble_eq_true rfl⟩ (show xs_164 = _ from rfl) ?_
  refine fr_putR (pc := 73) dX9_init_73 fl_X9_34 ft_X9_11 ⟨rfl, rfl⟩ (fun _ => rfl) (fun _ => rfl) (by decide) rfl (by decide) (show xs_165 = _ from rfl) ?_
  refine fr_aload_n (pc := 76) dX9_init_76 0 rfl rfl ?_
  refine fr_bipush (pc := 77) (v := (10 : Int32)) dX9_init_77 (by decide) ?_
  refine fr_newI (pc := 79) (n := 10) dX9_init_79 rfl (by decide) (by decide) (by decide) ⟨Nat.le_of_ble_eq_true rfl, Nat.le_of_ble_eq_true rfl⟩ (show xs_166 = _ from rfl) ?_
  refine fr_putR (pc := 81) dX9_init_81 fl_X9_37 ft_X9_12 ⟨rfl, rfl⟩ (fun _ => rfl) (fun _ => rfl) (by decide) rfl (by decide) (show xs_167 = _ from rfl) ?_
  refine fr_aload_n (pc := 84) dX9_init_84 0 rfl rfl ?_
  refine fr_iconst (pc := 85) (v := (3 : Int32)) dX9_init_85 (by decide) ?_
  refine fr_newI (pc := 86) (n := 3) dX9_init_86 rfl (by decide) (by decide) (by decide) ⟨Nat.le_of_ble_eq_true rfl, Nat.le_of_ble_eq_true rfl⟩ (show xs_168 = _ from rfl) ?_
  refine fr_putR (pc := 88) dX9_init_88 fl_X9_40 ft_X9_14 ⟨rfl, rfl⟩ (fun _ => rfl) (fun _ => rfl) (by decide) rfl (by decide) (show xs_169 = _ from rfl) ?_
  refine fr_aload_n (pc := 91) dX9_init_91 0 rfl rfl ?_
  refine fr_bipush (pc := 92) (v := (24 : Int32)) dX9_init_92 (by decide) ?_
  refine fr_newI (pc := 94) (n := 24) dX9_init_94 rfl (by decide) (by decide) (by decide) ⟨Nat.le_of_ble_eq_true rfl, Nat.le_of_ble_eq_true rfl⟩ (show xs_170 = _ from rfl) ?_
  refine fr_putR (pc := 96) dX9_init_96 fl_X9_43 ft_X9_15 ⟨rfl, rfl⟩ (fun _ => rfl) (fun _ => rfl) (by decide) rfl (by decide) (show xs_171 = _ from rfl) ?_
  refine fr_aload_n (pc := 99) dX9_init_99 0 rfl rfl ?_
  refine fr_bipush (pc := 100) (v := (24 : Int32)) dX9_init_100 (by decide) ?_
  refine fr_newI (pc := 102) (n := 24) dX9_init_102 rfl (by decide) (by decide) (by decide) ⟨Nat.le_of_ble_eq_true rfl, Nat.le_of_ble_eq_true rfl⟩ (show xs_172 = _ from rfl) ?_
  refine fr_putR (pc := 104) dX9_init_104 fl_X9_46 ft_X9_16 ⟨rfl, rfl⟩ (fun _ => rfl) (fun _ => rfl) (by decide) rfl (by decide) (show xs_173 = _ from rfl) ?_
  refine fr_aload_n (pc := 107) dX9_init_107 0 rfl rfl ?_
  refine fr_bipush (pc := 108) (v := (40 : Int32)) dX9_init_108 (by decide) ?_
  refine fr_newZ (pc := 110) (n := 40) dX9_init_110 rfl (by decide) (by decide) (by decide) ⟨Nat.le_of_ble_eq_true rfl, Nat.le_of_ble_eq_true rfl⟩ (show xs_174 = _ from rfl) ?_
  refine fr_putR (pc := 112) dX9_init_112 fl_X9_49 ft_X9_17 ⟨rfl, rfl⟩ (fun _ => rfl) (fun _ => rfl) (by decide) rfl (by decide) (show xs_175 = _ from rfl) ?_
  refine fr_aload_n (pc := 115) dX9_init_115 0 rfl rfl ?_
  refine fr_bipush (pc := 116) (v := (8 : Int32)) dX9_init_116 (by decide) ?_
  refine fr_newI (pc := 118) (n := 8) dX9_init_118 rfl (by decide) (by decide) (by decide) ⟨Nat.le_of_ble_eq_true rfl, Nat.le_of_ble_eq_true rfl⟩ (show xs_176 = _ from rfl) ?_
  refine fr_putR (pc := 120) dX9_init_120 fl_X9_53 ft_X9_19 ⟨rfl, rfl⟩ (fun _ => rfl) (fun _ => rfl) (by decide) rfl (by decide) (show xs_177 = _ from rfl) ?_
  refine fr_aload_n (pc := 123) dX9_init_123 0 rfl rfl ?_
  refine fr_iconst (pc := 124) (v := (3 : Int32)) dX9_init_124 (by decide) ?_
  refine fr_newI (pc := 125) (n := 3) dX9_init_125 rfl (by decide) (by decide) (by decide) ⟨Nat.le_of_ble_eq_true rfl, Nat.le_of_ble_eq_true rfl⟩ (show xs_178 = _ from rfl) ?_
  refine fr_putR (pc := 127) dX9_init_127 fl_X9_56 ft_X9_20 ⟨rfl, rfl⟩ (fun _ => rfl) (fun _ => rfl) (by decide) rfl (by decide) (show xs_179 = _ from rfl) ?_
  refine fr_aload_n (pc := 130) dX9_init_130 0 rfl rfl ?_
  refine fr_bipush (pc := 131) (v := (8 : Int32)) dX9_init_131 (by decide) ?_
  refine fr_newI (pc := 133) (n := 8) dX9_init_133 rfl (by decide) (by decide) (by decide) ⟨Nat.le_of_ble_eq_true rfl, Nat.le_of_ble_eq_true rfl⟩ (show xs_180 = _ from rfl) ?_
  refine fr_putR (pc := 135) dX9_init_135 fl_X9_59 ft_X9_22 ⟨rfl, rfl⟩ (fun _ => rfl) (fun _ => rfl) (by decide) rfl (by decide) (show xs_181 = _ from rfl) ?_
  refine fr_aload_n (pc := 138) dX9_init_138 0 rfl rfl ?_
  refine fr_bipush (pc := 139) (v := (8 : Int32)) dX9_init_139 (by decide) ?_
  refine fr_newI (pc := 141) (n := 8) dX9_init_141 rfl (by decide) (by decide) (by decide) ⟨Nat.le_of_ble_eq_true rfl, Nat.le_of_ble_eq_true rfl⟩ (show xs_182 = _ from rfl) ?_
  refine fr_putR (pc := 143) dX9_init_143 fl_X9_62 ft_X9_23 ⟨rfl, rfl⟩ (fun _ => rfl) (fun _ => rfl) (by decide) rfl (by decide) (show xs_183 = _ from rfl) ?_
  refine fr_aload_n (pc := 146) dX9_init_146 0 rfl rfl ?_
  refine fr_bipush (pc := 147) (v := (8 : Int32)) dX9_init_147 (by decide) ?_
  refine fr_newI (pc := 149) (n := 8) dX9_init_149 rfl (by decide) (by decide) (by decide) ⟨Nat.le_of_ble_eq_true rfl, Nat.le_of_ble_eq_true rfl⟩ (show xs_184 = _ from rfl) ?_
  refine fr_putR (pc := 151) dX9_init_151 fl_X9_65 ft_X9_24 ⟨rfl, rfl⟩ (fun _ => rfl) (fun _ => rfl) (by decide) rfl (by decide) (show xs_185 = _ from rfl) ?_
  refine fr_aload_n (pc := 154) dX9_init_154 0 rfl rfl ?_
  refine fr_iconst (pc := 155) (v := (4 : Int32)) dX9_init_155 (by decide) ?_
  refine fr_newZ (pc := 156) (n := 4) dX9_init_156 rfl (by decide) (by decide) (by decide) ⟨Nat.le_of_ble_eq_true rfl, Nat.le_of_ble_eq_true rfl⟩ (show xs_186 = _ from rfl) ?_
  refine fr_putR (pc := 158) dX9_init_158 fl_X9_68 ft_X9_25 ⟨rfl, rfl⟩ (fun _ => rfl) (fun _ => rfl) (by decide) rfl (by decide) (show xs_187 = _ from rfl) ?_
  refine fr_aload_n (pc := 161) dX9_init_161 0 rfl rfl ?_
  refine fr_iconst (pc := 162) (v := (4 : Int32)) dX9_init_162 (by decide) ?_
  refine fr_newI (pc := 163) (n := 4) dX9_init_163 rfl (by decide) (by decide) (by decide) ⟨Nat.le_of_ble_eq_true rfl, Nat.le_of_ble_eq_true rfl⟩ (show xs_188 = _ from rfl) ?_
  refine fr_putR (pc := 165) dX9_init_165 fl_X9_71 ft_X9_26 ⟨rfl, rfl⟩ (fun _ => rfl) (fun _ => rfl) (by decide) rfl (by decide) (show xs_189 = _ from rfl) ?_
  refine fr_aload_n (pc := 168) dX9_init_168 0 rfl rfl ?_
  refine fr_iconst (pc := 169) (v := (4 : Int32)) dX9_init_169 (by decide) ?_
  refine fr_newI (pc := 170) (n := 4) dX9_init_170 rfl (by decide) (by decide) (by decide) ⟨Nat.le_of_ble_eq_true rfl, Nat.le_of_ble_eq_true rfl⟩ (show xs_190 = _ from rfl) ?_
  refine fr_putR (pc := 172) dX9_init_172 fl_X9_74 ft_X9_27 ⟨rfl, rfl⟩ (fun _ => rfl) (fun _ => rfl) (by decide) rfl (by decide) (show xs_191 = _ from rfl) ?_
  refine fr_aload_n (pc := 175) dX9_init_175 0 rfl rfl ?_
  refine fr_sipush (pc := 176) (v := (192 : Int32)) dX9_init_176 (by decide) ?_
  refine fr_newI (pc := 179) (n := 192) dX9_init_179 rfl (by decide) (by decide) (by decide) ⟨Nat.le_of_ble_eq_true rfl, Nat.le_of_ble_eq_true rfl⟩ (show xs_192 = _ from rfl) ?_
  refine fr_putR (pc := 181) dX9_init_181 fl_X9_77 ft_X9_28 ⟨rfl, rfl⟩ (fun _ => rfl) (fun _ => rfl) (by decide) rfl (by decide) (show xs_193 = _ from rfl) ?_
  refine fr_aload_n (pc := 184) dX9_init_184 0 rfl rfl ?_
  refine fr_bipush (pc := 185) (v := (48 : Int32)) dX9_init_185 (by decide) ?_
  refine fr_newI (pc := 187) (n := 48) dX9_init_187 rfl (by decide) (by decide) (by decide) ⟨Nat.le_of_ble_eq_true rfl, Nat.le_of_ble_eq_true rfl⟩ (show xs_194 = _ from rfl) ?_
  refine fr_putR (pc := 189) dX9_init_189 fl_X9_80 ft_X9_29 ⟨rfl, rfl⟩ (fun _ => rfl) (fun _ => rfl) (by decide) rfl (by decide) (show xs_195 = _ from rfl) ?_
  refine fr_aload_n (pc := 192) dX9_init_192 0 rfl rfl ?_
  refine fr_bipush (pc := 193) (v := (6 : Int32)) dX9_init_193 (by decide) ?_
  refine fr_putIc false (pc := 195) dX9_init_195 fl_X9_83 ft_X9_13 ⟨rfl, rfl⟩ (by decide) rfl rfl (show hs_29 = _ from rfl) ?_
  exact fr_vret (X' := xs_0) (h' := hs_0) (pc := 198) dX9_init_198 rfl
