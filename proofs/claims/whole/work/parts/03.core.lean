/-! ===== my own layer: an abstract heap, its world, and a judgement over it ===== -/
def fd_gt : List Cond := lw_tbl.filter goodWord
theorem fd_gt_of {w : Cond} (h : w ∈ lw_tbl) (g : goodWord w = true) : w ∈ fd_gt := List.mem_filter.mpr ⟨h, g⟩
theorem fd_gt_t {w : Cond} (h : w ∈ tables_1) (g : goodWord w = true) : w ∈ fd_gt := fd_gt_of (List.mem_append_right _ h) g
theorem fd_gt_s {w : Cond} (h : w ∈ k2_sels lw_privs) (g : goodWord w = true) : w ∈ fd_gt := fd_gt_of (List.mem_append_left _ h) g
theorem fd_good : ∀ w ∈ fd_gt, goodWord w = true := fun w h => (List.mem_filter.mp h).2
theorem fd_GoodIn {ws : List Cond} (h : ∀ w ∈ ws, w ∈ fd_gt) : GoodIn fd_gt ws := fun w hw => ⟨h w hw, good_of_word (fd_good w (h w hw))⟩
/-- numbers by cell and place: ints (fields, rows), longs -/
abbrev fd_H : Type := (Nat → Nat → Int32) × (Nat → Nat → Int64)
/-- a field: null, a cell, an int (false), a long (true) -/
abbrev fd_F : Type := Option (Nat ⊕ Bool)
/-- a cell: an array (its kind: 0 int, 1 long, 2 boolean, from 3 on references; its length; its references), or an object (its class, its fields) -/
abbrev fd_Sh : Type := (Nat × Nat × (Nat → Option Nat)) ⊕ (Nat × List fd_F)
abbrev fd_X : Type := Nat × (Nat → fd_Sh)
def fd_val (z : Nat) (h : fd_H) (k j : Nat) : fd_F → Value
  | none => .null
  | some (.inl q) => .ref (z + q)
  | some (.inr false) => .int (h.1 k j)
  | some (.inr true) => .long (h.2 k j)
def fd_cell (z : Nat) (cA : Nat → ClassId) (h : fd_H) (k : Nat) : fd_Sh → va_E
  | .inl (t, n, rf) => .inl (cA t, n, if t = 1 then .inr (.inl (h.2 k)) else if t < 3 then .inl (h.1 k) else .inr (.inr (.inr (.inr fun j => (rf j).map (fun q => z + q)))))
  | .inr (ci, fs) => .inr (ci, fs.mapIdx (fd_val z h k))
def fd_w (z : Nat) (cA : Nat → ClassId) (X : fd_X) (h : fd_H) : va_W := (List.range X.1).map fun k => (z + k, fd_cell z cA h k (X.2 k))
def fd_ui (h : fd_H) (k j : Nat) (v : Int32) : fd_H := (fun a => if a = k then upd (h.1 k) j v else h.1 a, h.2)
def fd_ul (h : fd_H) (k j : Nat) (v : Int64) : fd_H := (h.1, fun a => if a = k then vp_updL (h.2 k) j v else h.2 a)
theorem fd_w_get {z : Nat} {cA : Nat → ClassId} {X : fd_X} {h : fd_H} {k : Nat} (hk : k < X.1) : (fd_w z cA X h)[k]? = some (z + k, fd_cell z cA h k (X.2 k)) := by
  unfold fd_w
  rw [List.getElem?_map, List.getElem?_range hk]
  rfl
theorem fd_w_at {z : Nat} {cA : Nat → ClassId} {X : fd_X} {h : fd_H} {k : Nat} {p : Nat × va_E} (hp : (fd_w z cA X h)[k]? = some p) : k < X.1 ∧ p = (z + k, fd_cell z cA h k (X.2 k)) := by
  have hk : k < X.1 := by
    have := (List.getElem?_eq_some_iff.mp hp).1
    simpa [fd_w] using this
  rw [fd_w_get hk] at hp
  exact ⟨hk, (Option.some.inj hp).symm⟩
theorem fd_w_D (z : Nat) (cA : Nat → ClassId) (X : fd_X) (h : fd_H) : va_D (fun q => z ≤ q) (fd_w z cA X h) := by
  refine ⟨fun i j p q hi hj e => ?_, fun k q hk => ?_⟩
  · obtain ⟨-, rfl⟩ := fd_w_at hi
    obtain ⟨-, rfl⟩ := fd_w_at hj
    dsimp only at e
    omega
  · obtain ⟨-, rfl⟩ := fd_w_at hk
    exact Nat.le_add_right z k
theorem fd_val_congr {z : Nat} {h h' : fd_H} {k : Nat} (h1 : h'.1 k = h.1 k) (h2 : h'.2 k = h.2 k) : fd_val z h' k = fd_val z h k := by
  funext j f
  match f with
  | none => rfl
  | some (.inl q) => rfl
  | some (.inr false) => show Value.int _ = Value.int _; rw [h1]
  | some (.inr true) => show Value.long _ = Value.long _; rw [h2]
theorem fd_cell_congr {z : Nat} {cA : Nat → ClassId} {h h' : fd_H} {k : Nat} (h1 : h'.1 k = h.1 k) (h2 : h'.2 k = h.2 k) (s : fd_Sh) : fd_cell z cA h' k s = fd_cell z cA h k s := by
  match s with
  | .inl (t, n, rf) => show Sum.inl _ = Sum.inl _; rw [h1, h2]
  | .inr (ci, fs) => show Sum.inr _ = Sum.inr _; rw [fd_val_congr h1 h2]
theorem fd_w_set {z : Nat} {cA : Nat → ClassId} {X X' : fd_X} {h h' : fd_H} {k : Nat} (hk : k < X.1) (hX : X'.1 = X.1) (hs : ∀ a, a ≠ k → X'.2 a = X.2 a) (h1 : ∀ a, a ≠ k → h'.1 a = h.1 a) (h2 : ∀ a, a ≠ k → h'.2 a = h.2 a) :
    (fd_w z cA X h).set k (z + k, fd_cell z cA h' k (X'.2 k)) = fd_w z cA X' h' := by
  apply List.ext_getElem?
  intro i
  by_cases hi : i < X.1
  · rw [fd_w_get (X := X') (by rw [hX]; exact hi)]
    by_cases e : i = k
    · subst e
      rw [List.getElem?_set_self (by simpa [fd_w] using hi)]
    · rw [List.getElem?_set_ne (Ne.symm e), fd_w_get hi, hs i e, fd_cell_congr (h1 i e) (h2 i e)]
  · have e1 : ((fd_w z cA X h).set k (z + k, fd_cell z cA h' k (X'.2 k)))[i]? = none := List.getElem?_eq_none (by simp [fd_w]; omega)
    have e2 : (fd_w z cA X' h')[i]? = none := List.getElem?_eq_none (by simp [fd_w, hX]; omega)
    rw [e1, e2]
theorem fd_ui_ne {h : fd_H} {k j : Nat} {v : Int32} : ∀ a, a ≠ k → (fd_ui h k j v).1 a = h.1 a := fun a e => if_neg e
theorem fd_ui_self {h : fd_H} {k j : Nat} {v : Int32} : (fd_ui h k j v).1 k = upd (h.1 k) j v := if_pos rfl
theorem fd_ul_ne {h : fd_H} {k j : Nat} {v : Int64} : ∀ a, a ≠ k → (fd_ul h k j v).2 a = h.2 a := fun a e => if_neg e
theorem fd_ul_self {h : fd_H} {k j : Nat} {v : Int64} : (fd_ul h k j v).2 k = vp_updL (h.2 k) j v := if_pos rfl
theorem fd_fld {z : Nat} {h : fd_H} {k j : Nat} {fs : List fd_F} {f : fd_F} (hf : fs[j]? = some f) : (fs.mapIdx (fd_val z h k))[j]? = some (fd_val z h k j f) := by
  rw [List.getElem?_mapIdx, hf]
  rfl
theorem fd_fld_setI {z : Nat} {h : fd_H} {k j : Nat} {v : Int32} {fs : List fd_F} (hf : fs[j]? = some (some (.inr false))) : fs.mapIdx (fd_val z (fd_ui h k j v) k) = (fs.mapIdx (fd_val z h k)).set j (.int v) := by
  apply List.ext_getElem?
  intro i
  by_cases e : i = j
  · subst e
    have hl : i < fs.length := (List.getElem?_eq_some_iff.mp hf).1
    rw [fd_fld hf, List.getElem?_set_self (by simpa using hl)]
    show some (Value.int ((fd_ui h k i v).1 k i)) = _
    rw [fd_ui_self, pk_us]
  · rw [List.getElem?_set_ne (Ne.symm e), List.getElem?_mapIdx, List.getElem?_mapIdx]
    cases hi : fs[i]? with
    | none => rfl
    | some f =>
      show some _ = some _
      match f with
      | none => rfl
      | some (.inl q) => rfl
      | some (.inr false) => show some (Value.int ((fd_ui h k j v).1 k i)) = _; rw [fd_ui_self, pk_un e]; rfl
      | some (.inr true) => rfl
theorem fd_fld_setL {z : Nat} {h : fd_H} {k j : Nat} {v : Int64} {fs : List fd_F} (hf : fs[j]? = some (some (.inr true))) : fs.mapIdx (fd_val z (fd_ul h k j v) k) = (fs.mapIdx (fd_val z h k)).set j (.long v) := by
  apply List.ext_getElem?
  intro i
  by_cases e : i = j
  · subst e
    have hl : i < fs.length := (List.getElem?_eq_some_iff.mp hf).1
    rw [fd_fld hf, List.getElem?_set_self (by simpa using hl)]
    show some (Value.long ((fd_ul h k i v).2 k i)) = _
    rw [fd_ul_self, pk_uLs]
  · rw [List.getElem?_set_ne (Ne.symm e), List.getElem?_mapIdx, List.getElem?_mapIdx]
    cases hi : fs[i]? with
    | none => rfl
    | some f =>
      show some _ = some _
      match f with
      | none => rfl
      | some (.inl q) => rfl
      | some (.inr false) => rfl
      | some (.inr true) => show some (Value.long ((fd_ul h k j v).2 k i)) = _; rw [fd_ul_self, pk_uLn e]; rfl
def fd_tys (cA : Nat → ClassId) : List (ClassId × FieldType) := [(cA 0, .int), (cA 1, .long), (cA 2, .boolean), (cA 3, .object "FrostDebts$Text"), (cA 4, .object "FrostDebts$Sheet")]
def fd_nest : List (String × Nat × MethodName × String) := [("FrostDebts", 20, ⟨"FrostDebts$Weather", "<init>", "()V"⟩, "FrostDebts"), ("FrostDebts$Weather", 11, ⟨"FrostDebts$Places", "<init>", "()V"⟩, "FrostDebts"), ("FrostDebts$Weather", 20, ⟨"FrostDebts$Marks", "<init>", "()V"⟩, "FrostDebts"), ("FrostDebts$Weather", 53, ⟨"FrostDebts$Spans", "<init>", "()V"⟩, "FrostDebts"), ("FrostDebts", 32, ⟨"FrostDebts$Debts", "<init>", "()V"⟩, "FrostDebts"), ("FrostDebts", 39, ⟨"FrostDebts$Marks", "<init>", "()V"⟩, "FrostDebts"), ("FrostDebts", 46, ⟨"FrostDebts$Spans", "<init>", "()V"⟩, "FrostDebts"), ("FrostDebts", 53, ⟨"FrostDebts$Sheet", "<init>", "()V"⟩, "FrostDebts"), ("FrostDebts$Places", 49, ⟨"FrostDebts", "kindOf", "(I)I"⟩, "FrostDebts"), ("FrostDebts$Weather", 93, ⟨"FrostDebts", "bitsBelow", "(I)J"⟩, "FrostDebts"), ("FrostDebts$Spans", 22, ⟨"FrostDebts", "countOrItem", "(JI)I"⟩, "FrostDebts"), ("FrostDebts$Spans", 19, ⟨"FrostDebts", "bitsUpTo", "(I)J"⟩, "FrostDebts")]
def fd_K (D : va_G) (cA : Nat → ClassId) (U : State) : Prop := va_K D vwCl (fd_tys cA) U ∧ (∀ q ∈ fd_nest, va_Nw (.methodLinkNest q.1 q.2.1 q.2.2.1 q.2.2.2) U) ∧ va_AO "FrostDebts$Text" U ∧ va_AO "FrostDebts$Sheet" U
theorem fd_K.warm {D : va_G} {cA : Nat → ClassId} {s U : State} (h : fd_K D cA s) (hW : s.WarmedH U.vm) : fd_K D cA U := ⟨va_K.moved hW.alike h.1, fun q hq => va_Nw.warmM hW (h.2.1 q hq), va_AO.moved hW.alike h.2.2.1, va_AO.moved hW.alike h.2.2.2⟩
theorem fd_K.calling {D : va_G} {cA : Nat → ClassId} {U : State} (h : fd_K D cA U) (g : JFrame) (mk : MethodId) (a : Array Value) : fd_K D cA (U.calling g mk a) :=
  ⟨va_K.moved (u := U) (U := U.calling g mk a) (Vm.Alike.refl U.vm) h.1, fun q hq => va_Nw.same (u := U) (U := U.calling g mk a) rfl rfl (h.2.1 q hq), va_AO.moved (u := U) (U := U.calling g mk a) (Vm.Alike.refl U.vm) h.2.2.1, va_AO.moved (u := U) (U := U.calling g mk a) (Vm.Alike.refl U.vm) h.2.2.2⟩
/-- a method: its name, bytes, locals, answer -/
abbrev fd_M : Type := MethodName × ByteArray × Nat × Option FieldType
/-- what is fixed: the launch, the classes' numbers, the array classes' numbers, the first cell -/
abbrev fd_G : Type := Launch × va_G × (Nat → ClassId) × Nat
def fd_C (g : fd_G) (M : fd_M) (E : Array Value → State → Prop) (p : Program) (s : State) (m : MethodId) (args : Array Value) (meth : Method) (c : Code) : Prop :=
  p.tables.exec = Jvm.exec ∧ c.code = M.2.1 ∧ c.maxLocals = M.2.2.1 ∧ meth.sig.returnType = M.2.2.2 ∧ meth.locks = false ∧ s.vm.findClass M.1.cls = some m.cls ∧ (∀ w ∈ fd_gt, w.before args s = true) ∧ fd_K g.2.1 g.2.2.1 s ∧ g.2.2.2 ≤ s.heap.size ∧ meth.name = M.1.name ∧ E args s
def fd_A (g : fd_G) (M : fd_M) (E : Array Value → State → Prop) (R : Room) (Q : Array Value → State → List Frame → State → Prop) (pc : Nat) (lv : List (Nat × Value)) (st : List Value) (X : fd_X) (h : fd_H) (cells slots : Nat) : Prop :=
  ∀ (p : Program) (e : Env) (s : State) (m : MethodId) (args : Array Value) (below : List Frame) (meth : Method) (c : Code), fd_C g M E p s m args meth c → ∀ (H : Heap) (locs : List Loc) (ls : Array Slot), va_P g.2.1 vwCl (fd_w g.2.2.2 g.2.2.1 X h) H → H.size = g.2.2.2 + X.1 → va_S (fun q => g.2.2.2 ≤ q) s.heap H locs → lv_has ls M.2.2.1 lv →
    W p g.1 e R s m args below meth c H locs cells slots (Q args s below) (F0 m pc ls st)
/-- a contract: from the world (X, h) the method answers r, and the world is (X', h') -/
def fd_Pc (g : fd_G) (av : List Value) (X : fd_X) (h : fd_H) : Array Value → State → Prop := fun a U => a = av.toArray ∧ va_P g.2.1 vwCl (fd_w g.2.2.2 g.2.2.1 X h) U.heap ∧ U.heap.size = g.2.2.2 + X.1 ∧ fd_K g.2.1 g.2.2.1 U
def fd_Qc (g : fd_G) (r : Option Value) (X : fd_X) (h : fd_H) : Array Value → State → Outcome → State → Prop := fun _ s o t => o = .returned r ∧ va_P g.2.1 vwCl (fd_w g.2.2.2 g.2.2.1 X h) t.heap ∧ t.heap.size = g.2.2.2 + X.1 ∧ va_F (fun q => g.2.2.2 ≤ q) s t
def fd_rm (d mc ms : Nat) : Room := { frames := d, cells := mc, slots := ms, locals := 40 * d }
def fd_S (g : fd_G) (M : fd_M) (d : Nat) (av : List Value) (X : fd_X) (h : fd_H) (r : Option Value) (X' : fd_X) (h' : fd_H) (mc ms : Nat) : Prop :=
  Met g.1 M.1 (.code M.1 M.2.1 M.2.2.1 M.2.2.2 :: fd_gt) (fd_rm d mc ms) (fd_Pc g av X h) (fd_Qc g r X' h') mc ms (fun q => g.2.2.2 ≤ q)
def fd_Q (g : fd_G) (r : Option Value) (X : fd_X) (h : fd_H) (mc ms : Nat) : Array Value → State → List Frame → State → Prop := fun args s below => MQ below (fd_Qc g r X h) args s mc ms (fun q => g.2.2.2 ≤ q)
def fd_E : Array Value → State → Prop := fun _ _ => True
theorem fd_S.of {g : fd_G} {M : fd_M} {d : Nat} {av : List Value} {X X' : fd_X} {h h' : fd_H} {r : Option Value} {mc ms : Nat} (hy : plainName M.1.cls = true) (hn : (lg_sl av).length ≤ M.2.2.1)
    (kk : fd_A g M fd_E (fd_rm d mc ms) (fd_Q g r X' h' mc ms) 0 (lv_args 0 av) [] X h 0 0) : fd_S g M d av X h r X' h' mc ms := by
  refine Met.ofW (cc := M.2.1) (maxL := M.2.2.1) (ret := M.2.2.2) hy rfl ?_
  intro p e s m args below meth c s₁ B hml hv
  obtain ⟨rfl, hP, hz, hK⟩ := hv
  have hts := atoms_spec (ws := .code M.1 M.2.1 M.2.2.1 M.2.2.2 :: fd_gt) B.pre
  have hC : fd_C g M fd_E p s m av.toArray meth c := ⟨B.exec, B.bytes, hml, B.returns, B.notSynchronized, findClass_of_methodNamed B.named, fun w hw => hts w (List.mem_cons_of_mem _ hw), hK, by rw [hz]; exact Nat.le_add_right _ _, (name_of_methodNamed B.named B.method).1, trivial⟩
  rw [lg_entry_eq]
  exact kk p e s m av.toArray below meth c hC s.heap [] _ hP hz va_S.rf (lv_entry av hn)
section fd_rows
variable {g : fd_G} {M : fd_M} {E : Array Value → State → Prop} {R : Room} {Q : Array Value → State → List Frame → State → Prop} {pc : Nat} {lv lv' : List (Nat × Value)} {st : List Value} {X : fd_X} {h : fd_H} {cells slots : Nat}
theorem fr_iconst {n : Int} {v : Int32} (hd : decode M.2.1 pc = .ok (.iconst n, 1)) (hv : Int32.ofInt n = v) (kk : fd_A g M E R Q (pc + 1) lv (.int v :: st) X h cells slots) : fd_A g M E R Q pc lv (st) X h cells slots := by
  intro p e s m args below meth c C H locs ls hP hz hS hl
  exact lv_iconst C.1 C.2.1 hd hv (kk p e s m args below meth c C H locs ls hP hz hS hl)
theorem fr_bipush {n : Int} {v : Int32} (hd : decode M.2.1 pc = .ok (.bipush n, 2)) (hv : (Int8.ofInt n).toInt32 = v) (kk : fd_A g M E R Q (pc + 2) lv (.int v :: st) X h cells slots) : fd_A g M E R Q pc lv (st) X h cells slots := by
  intro p e s m args below meth c C H locs ls hP hz hS hl
  exact lv_bipush C.1 C.2.1 hd hv (kk p e s m args below meth c C H locs ls hP hz hS hl)
theorem fr_sipush {n : Int} {v : Int32} (hd : decode M.2.1 pc = .ok (.sipush n, 3)) (hv : (Int16.ofInt n).toInt32 = v) (kk : fd_A g M E R Q (pc + 3) lv (.int v :: st) X h cells slots) : fd_A g M E R Q pc lv (st) X h cells slots := by
  intro p e s m args below meth c C H locs ls hP hz hS hl
  exact lv_sipush C.1 C.2.1 hd hv (kk p e s m args below meth c C H locs ls hP hz hS hl)
theorem fr_lconst {n : Fin 2} {v : Int64} (hd : decode M.2.1 pc = .ok (.lconst n, 1)) (hv : Int64.ofNat (n : Nat) = v) (kk : fd_A g M E R Q (pc + 1) lv (.long v :: st) X h cells slots) : fd_A g M E R Q pc lv (st) X h cells slots := by
  intro p e s m args below meth c C H locs ls hP hz hS hl
  exact lv_lconst C.1 C.2.1 hd hv (kk p e s m args below meth c C H locs ls hP hz hS hl)
theorem fr_iload_n {k : Fin 4} {i : Nat} {x : Int32} (hd : decode M.2.1 pc = .ok (.iload_n k, 1)) (j : Nat) (hi : (k : Nat) = i) (hj : lv[j]? = some (i, .int x)) (kk : fd_A g M E R Q (pc + 1) lv (.int x :: st) X h cells slots) : fd_A g M E R Q pc lv (st) X h cells slots := by
  intro p e s m args below meth c C H locs ls hP hz hS hl
  exact lv_iload_n C.1 C.2.1 hd hi (lv_at hl j hj) (kk p e s m args below meth c C H locs ls hP hz hS hl)
theorem fr_iload {i : Nat} {x : Int32} (hd : decode M.2.1 pc = .ok (.iload i, 2)) (j : Nat) (hj : lv[j]? = some (i, .int x)) (kk : fd_A g M E R Q (pc + 2) lv (.int x :: st) X h cells slots) : fd_A g M E R Q pc lv (st) X h cells slots := by
  intro p e s m args below meth c C H locs ls hP hz hS hl
  exact lv_iload C.1 C.2.1 hd (lv_at hl j hj) (kk p e s m args below meth c C H locs ls hP hz hS hl)
theorem fr_istore_n {k : Fin 4} {i : Nat} {x : Int32} (hd : decode M.2.1 pc = .ok (.istore_n k, 1)) (hi : (k : Nat) = i) (hn : i < M.2.2.1) (hv : (i, Value.int x) :: lv.filter (fun q => !(q.1 == i) && !(q.1 + 1 == i && q.2.category == 2)) = lv') (kk : fd_A g M E R Q (pc + 1) lv' st X h cells slots) : fd_A g M E R Q pc lv (.int x :: st) X h cells slots := by
  intro p e s m args below meth c C H locs ls hP hz hS hl
  exact lv_istore_n C.1 C.2.1 hd hi hl hn hv (fun ls' hl' => kk p e s m args below meth c C H locs ls' hP hz hS hl')
theorem fr_istore {i : Nat} {x : Int32} (hd : decode M.2.1 pc = .ok (.istore i, 2)) (hn : i < M.2.2.1) (hv : (i, Value.int x) :: lv.filter (fun q => !(q.1 == i) && !(q.1 + 1 == i && q.2.category == 2)) = lv') (kk : fd_A g M E R Q (pc + 2) lv' st X h cells slots) : fd_A g M E R Q pc lv (.int x :: st) X h cells slots := by
  intro p e s m args below meth c C H locs ls hP hz hS hl
  exact lv_istore C.1 C.2.1 hd hl hn hv (fun ls' hl' => kk p e s m args below meth c C H locs ls' hP hz hS hl')
theorem fr_lload_n {k : Fin 4} {i : Nat} {x : Int64} (hd : decode M.2.1 pc = .ok (.lload_n k, 1)) (j : Nat) (hi : (k : Nat) = i) (hj : lv[j]? = some (i, .long x)) (kk : fd_A g M E R Q (pc + 1) lv (.long x :: st) X h cells slots) : fd_A g M E R Q pc lv (st) X h cells slots := by
  intro p e s m args below meth c C H locs ls hP hz hS hl
  exact lv_lload_n C.1 C.2.1 hd hi (lv_at hl j hj) (kk p e s m args below meth c C H locs ls hP hz hS hl)
theorem fr_lload {i : Nat} {x : Int64} (hd : decode M.2.1 pc = .ok (.lload i, 2)) (j : Nat) (hj : lv[j]? = some (i, .long x)) (kk : fd_A g M E R Q (pc + 2) lv (.long x :: st) X h cells slots) : fd_A g M E R Q pc lv (st) X h cells slots := by
  intro p e s m args below meth c C H locs ls hP hz hS hl
  exact lv_lload C.1 C.2.1 hd (lv_at hl j hj) (kk p e s m args below meth c C H locs ls hP hz hS hl)
theorem fr_lstore_n {k : Fin 4} {i : Nat} {x : Int64} (hd : decode M.2.1 pc = .ok (.lstore_n k, 1)) (hi : (k : Nat) = i) (hn : i + 1 < M.2.2.1) (hv : (i, Value.long x) :: lv.filter (fun q => !(q.1 == i) && (!(q.1 == i + 1) && !(q.1 + 1 == i && q.2.category == 2))) = lv') (kk : fd_A g M E R Q (pc + 1) lv' st X h cells slots) : fd_A g M E R Q pc lv (.long x :: st) X h cells slots := by
  intro p e s m args below meth c C H locs ls hP hz hS hl
  exact lv_lstore_n C.1 C.2.1 hd hi hl hn hv (fun ls' hl' => kk p e s m args below meth c C H locs ls' hP hz hS hl')
theorem fr_lstore {i : Nat} {x : Int64} (hd : decode M.2.1 pc = .ok (.lstore i, 2)) (hn : i + 1 < M.2.2.1) (hv : (i, Value.long x) :: lv.filter (fun q => !(q.1 == i) && (!(q.1 == i + 1) && !(q.1 + 1 == i && q.2.category == 2))) = lv') (kk : fd_A g M E R Q (pc + 2) lv' st X h cells slots) : fd_A g M E R Q pc lv (.long x :: st) X h cells slots := by
  intro p e s m args below meth c C H locs ls hP hz hS hl
  exact lv_lstore C.1 C.2.1 hd hl hn hv (fun ls' hl' => kk p e s m args below meth c C H locs ls' hP hz hS hl')
theorem fr_aload_n {k : Fin 4} {i : Nat} {x : Nat} (hd : decode M.2.1 pc = .ok (.aload_n k, 1)) (j : Nat) (hi : (k : Nat) = i) (hj : lv[j]? = some (i, .ref x)) (kk : fd_A g M E R Q (pc + 1) lv (.ref x :: st) X h cells slots) : fd_A g M E R Q pc lv (st) X h cells slots := by
  intro p e s m args below meth c C H locs ls hP hz hS hl
  exact lv_aload_n C.1 C.2.1 hd hi (lv_at hl j hj) (kk p e s m args below meth c C H locs ls hP hz hS hl)
theorem fr_aload {i : Nat} {x : Nat} (hd : decode M.2.1 pc = .ok (.aload i, 2)) (j : Nat) (hj : lv[j]? = some (i, .ref x)) (kk : fd_A g M E R Q (pc + 2) lv (.ref x :: st) X h cells slots) : fd_A g M E R Q pc lv (st) X h cells slots := by
  intro p e s m args below meth c C H locs ls hP hz hS hl
  exact lv_aload C.1 C.2.1 hd (lv_at hl j hj) (kk p e s m args below meth c C H locs ls hP hz hS hl)
theorem fr_astore_n {k : Fin 4} {i : Nat} {x : Nat} (hd : decode M.2.1 pc = .ok (.astore_n k, 1)) (hi : (k : Nat) = i) (hn : i < M.2.2.1) (hv : (i, Value.ref x) :: lv.filter (fun q => !(q.1 == i) && !(q.1 + 1 == i && q.2.category == 2)) = lv') (kk : fd_A g M E R Q (pc + 1) lv' st X h cells slots) : fd_A g M E R Q pc lv (.ref x :: st) X h cells slots := by
  intro p e s m args below meth c C H locs ls hP hz hS hl
  exact lv_astore_n C.1 C.2.1 hd hi hl hn hv (fun ls' hl' => kk p e s m args below meth c C H locs ls' hP hz hS hl')
theorem fr_astore {i : Nat} {x : Nat} (hd : decode M.2.1 pc = .ok (.astore i, 2)) (hn : i < M.2.2.1) (hv : (i, Value.ref x) :: lv.filter (fun q => !(q.1 == i) && !(q.1 + 1 == i && q.2.category == 2)) = lv') (kk : fd_A g M E R Q (pc + 2) lv' st X h cells slots) : fd_A g M E R Q pc lv (.ref x :: st) X h cells slots := by
  intro p e s m args below meth c C H locs ls hP hz hS hl
  exact lv_astore C.1 C.2.1 hd hl hn hv (fun ls' hl' => kk p e s m args below meth c C H locs ls' hP hz hS hl')
theorem fr_iinc {i : Nat} {n : Int} {x v : Int32} (hd : decode M.2.1 pc = .ok (.iinc i n, 3)) (j : Nat) (hj : lv[j]? = some (i, .int x)) (hx : x + Int32.ofInt n = v) (hn : i < M.2.2.1) (hv : (i, Value.int v) :: lv.filter (fun q => !(q.1 == i) && !(q.1 + 1 == i && q.2.category == 2)) = lv') (kk : fd_A g M E R Q (pc + 3) lv' st X h cells slots) : fd_A g M E R Q pc lv st X h cells slots := by
  intro p e s m args below meth c C H locs ls hP hz hS hl
  exact lv_iinc (k := j) C.1 C.2.1 hd hl hj hx hn hv (fun ls' hl' => kk p e s m args below meth c C H locs ls' hP hz hS hl')
theorem fr_iadd {x y : Int32} (hd : decode M.2.1 pc = .ok (.iadd, 1))  (kk : fd_A g M E R Q (pc + 1) lv (.int (x + y) :: st) X h cells slots) : fd_A g M E R Q pc lv (.int y :: .int x :: st) X h cells slots := by
  intro p e s m args below meth c C H locs ls hP hz hS hl
  exact lv_iadd C.1 C.2.1 hd  (kk p e s m args below meth c C H locs ls hP hz hS hl)
theorem fr_isub {x y : Int32} (hd : decode M.2.1 pc = .ok (.isub, 1))  (kk : fd_A g M E R Q (pc + 1) lv (.int (x - y) :: st) X h cells slots) : fd_A g M E R Q pc lv (.int y :: .int x :: st) X h cells slots := by
  intro p e s m args below meth c C H locs ls hP hz hS hl
  exact lv_isub C.1 C.2.1 hd  (kk p e s m args below meth c C H locs ls hP hz hS hl)
theorem fr_imul {x y : Int32} (hd : decode M.2.1 pc = .ok (.imul, 1))  (kk : fd_A g M E R Q (pc + 1) lv (.int (x * y) :: st) X h cells slots) : fd_A g M E R Q pc lv (.int y :: .int x :: st) X h cells slots := by
  intro p e s m args below meth c C H locs ls hP hz hS hl
  exact lv_imul C.1 C.2.1 hd  (kk p e s m args below meth c C H locs ls hP hz hS hl)
theorem fr_iand {x y : Int32} (hd : decode M.2.1 pc = .ok (.iand, 1))  (kk : fd_A g M E R Q (pc + 1) lv (.int (x &&& y) :: st) X h cells slots) : fd_A g M E R Q pc lv (.int y :: .int x :: st) X h cells slots := by
  intro p e s m args below meth c C H locs ls hP hz hS hl
  exact lv_iand C.1 C.2.1 hd  (kk p e s m args below meth c C H locs ls hP hz hS hl)
theorem fr_ior {x y : Int32} (hd : decode M.2.1 pc = .ok (.ior, 1))  (kk : fd_A g M E R Q (pc + 1) lv (.int (x ||| y) :: st) X h cells slots) : fd_A g M E R Q pc lv (.int y :: .int x :: st) X h cells slots := by
  intro p e s m args below meth c C H locs ls hP hz hS hl
  exact lv_ior C.1 C.2.1 hd  (kk p e s m args below meth c C H locs ls hP hz hS hl)
theorem fr_ixor {x y : Int32} (hd : decode M.2.1 pc = .ok (.ixor, 1))  (kk : fd_A g M E R Q (pc + 1) lv (.int (x ^^^ y) :: st) X h cells slots) : fd_A g M E R Q pc lv (.int y :: .int x :: st) X h cells slots := by
  intro p e s m args below meth c C H locs ls hP hz hS hl
  exact lv_ixor C.1 C.2.1 hd  (kk p e s m args below meth c C H locs ls hP hz hS hl)
theorem fr_ishl {x y : Int32} (hd : decode M.2.1 pc = .ok (.ishl, 1))  (kk : fd_A g M E R Q (pc + 1) lv (.int (x <<< (y &&& 31)) :: st) X h cells slots) : fd_A g M E R Q pc lv (.int y :: .int x :: st) X h cells slots := by
  intro p e s m args below meth c C H locs ls hP hz hS hl
  exact lv_ishl C.1 C.2.1 hd  (kk p e s m args below meth c C H locs ls hP hz hS hl)
theorem fr_ishr {x y : Int32} (hd : decode M.2.1 pc = .ok (.ishr, 1))  (kk : fd_A g M E R Q (pc + 1) lv (.int (x >>> (y &&& 31)) :: st) X h cells slots) : fd_A g M E R Q pc lv (.int y :: .int x :: st) X h cells slots := by
  intro p e s m args below meth c C H locs ls hP hz hS hl
  exact lv_ishr C.1 C.2.1 hd  (kk p e s m args below meth c C H locs ls hP hz hS hl)
theorem fr_ladd {x y : Int64} (hd : decode M.2.1 pc = .ok (.ladd, 1))  (kk : fd_A g M E R Q (pc + 1) lv (.long (x + y) :: st) X h cells slots) : fd_A g M E R Q pc lv (.long y :: .long x :: st) X h cells slots := by
  intro p e s m args below meth c C H locs ls hP hz hS hl
  exact lv_ladd C.1 C.2.1 hd  (kk p e s m args below meth c C H locs ls hP hz hS hl)
theorem fr_lsub {x y : Int64} (hd : decode M.2.1 pc = .ok (.lsub, 1))  (kk : fd_A g M E R Q (pc + 1) lv (.long (x - y) :: st) X h cells slots) : fd_A g M E R Q pc lv (.long y :: .long x :: st) X h cells slots := by
  intro p e s m args below meth c C H locs ls hP hz hS hl
  exact lv_lsub C.1 C.2.1 hd  (kk p e s m args below meth c C H locs ls hP hz hS hl)
theorem fr_lmul {x y : Int64} (hd : decode M.2.1 pc = .ok (.lmul, 1))  (kk : fd_A g M E R Q (pc + 1) lv (.long (x * y) :: st) X h cells slots) : fd_A g M E R Q pc lv (.long y :: .long x :: st) X h cells slots := by
  intro p e s m args below meth c C H locs ls hP hz hS hl
  exact lv_lmul C.1 C.2.1 hd  (kk p e s m args below meth c C H locs ls hP hz hS hl)
theorem fr_land {x y : Int64} (hd : decode M.2.1 pc = .ok (.land, 1))  (kk : fd_A g M E R Q (pc + 1) lv (.long (x &&& y) :: st) X h cells slots) : fd_A g M E R Q pc lv (.long y :: .long x :: st) X h cells slots := by
  intro p e s m args below meth c C H locs ls hP hz hS hl
  exact lv_land C.1 C.2.1 hd  (kk p e s m args below meth c C H locs ls hP hz hS hl)
theorem fr_lor {x y : Int64} (hd : decode M.2.1 pc = .ok (.lor, 1))  (kk : fd_A g M E R Q (pc + 1) lv (.long (x ||| y) :: st) X h cells slots) : fd_A g M E R Q pc lv (.long y :: .long x :: st) X h cells slots := by
  intro p e s m args below meth c C H locs ls hP hz hS hl
  exact lv_lor C.1 C.2.1 hd  (kk p e s m args below meth c C H locs ls hP hz hS hl)
theorem fr_lxor {x y : Int64} (hd : decode M.2.1 pc = .ok (.lxor, 1))  (kk : fd_A g M E R Q (pc + 1) lv (.long (x ^^^ y) :: st) X h cells slots) : fd_A g M E R Q pc lv (.long y :: .long x :: st) X h cells slots := by
  intro p e s m args below meth c C H locs ls hP hz hS hl
  exact lv_lxor C.1 C.2.1 hd  (kk p e s m args below meth c C H locs ls hP hz hS hl)
end fd_rows
def fd_irem (x y : Int32) : Int32 := x - x / y * y
def fd_lrem (x y : Int64) : Int64 := x - x / y * y
def fd_iushr (x y : Int32) : Int32 := (x.toUInt32 >>> (y.toUInt32 &&& Int32.toUInt32 31)).toInt32
def fd_lushr (x : Int64) (y : Int32) : Int64 := (x.toUInt64 >>> (y.toInt64.toUInt64 &&& Int64.toUInt64 63)).toInt64
def fd_lshl (x : Int64) (y : Int32) : Int64 := x <<< (y.toInt64 &&& 63)
def fd_b (b : Bool) : Int32 := if b = true then 1 else 0
theorem fd_b_n (b : Bool) : narrow .boolean (.int (fd_b b)) = .int (fd_b b) := by cases b <;> rfl
theorem fd_b_f (b : Bool) : fits .boolean (.int (fd_b b)) = true := by cases b <;> rfl
theorem fd_b_v (b : Bool) : vp_nar .boolean (fd_b b) = fd_b b := by cases b <;> rfl
theorem fd_b_0 (b : Bool) : fd_b b = 0 ↔ ¬ b = true := by cases b <;> decide
def fd_in (i : Int32) (n : Nat) : Bool := decide (¬ i < 0) && decide (i.toNatClampNeg < n)
theorem fd_in_p {i : Int32} {n : Nat} (h : fd_in i n = true) : vp_in i n := by
  unfold fd_in at h
  simp only [Bool.and_eq_true, decide_eq_true_eq] at h
  exact fun q => q.elim h.1 (fun q => absurd h.2 (Nat.not_lt.mpr q))
def fd_g {α : Type} (b : Bool) (k : Option α) : Option α := if b = true then k else none
theorem fd_g_e {α : Type} {b : Bool} {k : Option α} {r : α} (h : fd_g b k = some r) : b = true ∧ k = some r := by
  unfold fd_g at h
  by_cases e : b = true
  · rw [if_pos e] at h; exact ⟨e, h⟩
  · rw [if_neg e] at h; cases h
theorem fd_t {α : Type} {c : Prop} [Decidable c] {a b r : α} (h : c) (hf : (if c then a else b) = r) : a = r := by rw [if_pos h] at hf; exact hf
theorem fd_f {α : Type} {c : Prop} [Decidable c] {a b r : α} (h : ¬ c) (hf : (if c then a else b) = r) : b = r := by rw [if_neg h] at hf; exact hf
theorem fd_bi {α β : Type} {o : Option α} {k : α → Option β} {r : β} (h : o.bind k = some r) : ∃ x, o = some x ∧ k x = some r := Option.bind_eq_some_iff.mp h
def fd_fu : Nat := 200
section fd_rows2
variable {g : fd_G} {M : fd_M} {E : Array Value → State → Prop} {R : Room} {Q : Array Value → State → List Frame → State → Prop} {pc : Nat} {lv lv' : List (Nat × Value)} {st : List Value} {X : fd_X} {h : fd_H} {cells slots : Nat}
theorem fr_idiv {x y : Int32} (hd : decode M.2.1 pc = .ok (.idiv, 1)) (hne : ¬ y = 0) (kk : fd_A g M E R Q (pc + 1) lv (.int (x / y) :: st) X h cells slots) : fd_A g M E R Q pc lv (.int y :: .int x :: st) X h cells slots := by
  intro p e s m args below meth c C H locs ls hP hz hS hl
  exact lv_idiv C.1 C.2.1 hd hne (kk p e s m args below meth c C H locs ls hP hz hS hl)
theorem fr_irem {x y : Int32} (hd : decode M.2.1 pc = .ok (.irem, 1)) (hne : ¬ y = 0) (kk : fd_A g M E R Q (pc + 1) lv (.int (fd_irem x y) :: st) X h cells slots) : fd_A g M E R Q pc lv (.int y :: .int x :: st) X h cells slots := by
  intro p e s m args below meth c C H locs ls hP hz hS hl
  exact lv_irem C.1 C.2.1 hd hne (kk p e s m args below meth c C H locs ls hP hz hS hl)
theorem fr_ldiv {x y : Int64} (hd : decode M.2.1 pc = .ok (.ldiv, 1)) (hne : ¬ y = 0) (kk : fd_A g M E R Q (pc + 1) lv (.long (x / y) :: st) X h cells slots) : fd_A g M E R Q pc lv (.long y :: .long x :: st) X h cells slots := by
  intro p e s m args below meth c C H locs ls hP hz hS hl
  exact lv_ldiv C.1 C.2.1 hd hne (kk p e s m args below meth c C H locs ls hP hz hS hl)
theorem fr_lrem {x y : Int64} (hd : decode M.2.1 pc = .ok (.lrem, 1)) (hne : ¬ y = 0) (kk : fd_A g M E R Q (pc + 1) lv (.long (fd_lrem x y) :: st) X h cells slots) : fd_A g M E R Q pc lv (.long y :: .long x :: st) X h cells slots := by
  intro p e s m args below meth c C H locs ls hP hz hS hl
  exact lv_lrem C.1 C.2.1 hd hne (kk p e s m args below meth c C H locs ls hP hz hS hl)
theorem fr_iushr {x y : Int32} (hd : decode M.2.1 pc = .ok (.iushr, 1)) (kk : fd_A g M E R Q (pc + 1) lv (.int (fd_iushr x y) :: st) X h cells slots) : fd_A g M E R Q pc lv (.int y :: .int x :: st) X h cells slots := by
  intro p e s m args below meth c C H locs ls hP hz hS hl
  exact lv_iushr C.1 C.2.1 hd rfl (kk p e s m args below meth c C H locs ls hP hz hS hl)
theorem fr_lushr {x : Int64} {y : Int32} (hd : decode M.2.1 pc = .ok (.lushr, 1)) (kk : fd_A g M E R Q (pc + 1) lv (.long (fd_lushr x y) :: st) X h cells slots) : fd_A g M E R Q pc lv (.int y :: .long x :: st) X h cells slots := by
  intro p e s m args below meth c C H locs ls hP hz hS hl
  exact lv_lushr C.1 C.2.1 hd rfl (kk p e s m args below meth c C H locs ls hP hz hS hl)
theorem fr_lshl {x : Int64} {y : Int32} (hd : decode M.2.1 pc = .ok (.lshl, 1)) (kk : fd_A g M E R Q (pc + 1) lv (.long (fd_lshl x y) :: st) X h cells slots) : fd_A g M E R Q pc lv (.int y :: .long x :: st) X h cells slots := by
  intro p e s m args below meth c C H locs ls hP hz hS hl
  exact lv_lshl C.1 C.2.1 hd rfl (kk p e s m args below meth c C H locs ls hP hz hS hl)
theorem fr_i2l {x : Int32} (hd : decode M.2.1 pc = .ok (.i2l, 1)) (kk : fd_A g M E R Q (pc + 1) lv (.long x.toInt64 :: st) X h cells slots) : fd_A g M E R Q pc lv (.int x :: st) X h cells slots := by
  intro p e s m args below meth c C H locs ls hP hz hS hl
  exact lv_i2l C.1 C.2.1 hd rfl (kk p e s m args below meth c C H locs ls hP hz hS hl)
theorem fr_l2i {x : Int64} (hd : decode M.2.1 pc = .ok (.l2i, 1)) (kk : fd_A g M E R Q (pc + 1) lv (.int x.toInt32 :: st) X h cells slots) : fd_A g M E R Q pc lv (.long x :: st) X h cells slots := by
  intro p e s m args below meth c C H locs ls hP hz hS hl
  exact lv_l2i C.1 C.2.1 hd rfl (kk p e s m args below meth c C H locs ls hP hz hS hl)
theorem fr_i2b {x : Int32} (hd : decode M.2.1 pc = .ok (.i2b, 1)) (kk : fd_A g M E R Q (pc + 1) lv (.int x.toInt8.toInt32 :: st) X h cells slots) : fd_A g M E R Q pc lv (.int x :: st) X h cells slots := by
  intro p e s m args below meth c C H locs ls hP hz hS hl
  exact lv_i2b C.1 C.2.1 hd rfl (kk p e s m args below meth c C H locs ls hP hz hS hl)
theorem fr_i2s {x : Int32} (hd : decode M.2.1 pc = .ok (.i2s, 1)) (kk : fd_A g M E R Q (pc + 1) lv (.int x.toInt16.toInt32 :: st) X h cells slots) : fd_A g M E R Q pc lv (.int x :: st) X h cells slots := by
  intro p e s m args below meth c C H locs ls hP hz hS hl
  exact lv_i2s C.1 C.2.1 hd rfl (kk p e s m args below meth c C H locs ls hP hz hS hl)
theorem fr_lcmp {x y : Int64} (hd : decode M.2.1 pc = .ok (.lcmp, 1)) (kk : fd_A g M E R Q (pc + 1) lv (.int (lg_cmp x y) :: st) X h cells slots) : fd_A g M E R Q pc lv (.long y :: .long x :: st) X h cells slots := by
  intro p e s m args below meth c C H locs ls hP hz hS hl
  exact W.lcmp C.1 C.2.1 hd (kk p e s m args below meth c C H locs ls hP hz hS hl)
theorem fr_dup {v : Value} (hd : decode M.2.1 pc = .ok (.dup, 1)) (hv : v.category = 1) (kk : fd_A g M E R Q (pc + 1) lv (v :: v :: st) X h cells slots) : fd_A g M E R Q pc lv (v :: st) X h cells slots := by
  intro p e s m args below meth c C H locs ls hP hz hS hl
  exact lv_dup C.1 C.2.1 hd hv (kk p e s m args below meth c C H locs ls hP hz hS hl)
theorem fr_pop {v : Value} (hd : decode M.2.1 pc = .ok (.pop, 1)) (hv : v.category = 1) (kk : fd_A g M E R Q (pc + 1) lv (st) X h cells slots) : fd_A g M E R Q pc lv (v :: st) X h cells slots := by
  intro p e s m args below meth c C H locs ls hP hz hS hl
  exact lv_pop C.1 C.2.1 hd hv (kk p e s m args below meth c C H locs ls hP hz hS hl)
theorem fr_dup2 {v u : Value} (hd : decode M.2.1 pc = .ok (.dup2, 1)) (hv : v.category = 1) (hu : u.category = 1) (kk : fd_A g M E R Q (pc + 1) lv (v :: u :: v :: u :: st) X h cells slots) : fd_A g M E R Q pc lv (v :: u :: st) X h cells slots := by
  intro p e s m args below meth c C H locs ls hP hz hS hl
  exact lv_dup2_11 C.1 C.2.1 hd hv hu (kk p e s m args below meth c C H locs ls hP hz hS hl)
theorem fr_ldc {i : Nat} {v : Int32} (hd : decode M.2.1 pc = .ok (.ldc i, 2)) (hw : Cond.constant M.1.cls i v ∈ fd_gt) (kk : fd_A g M E R Q (pc + 2) lv (.int v :: st) X h cells slots) : fd_A g M E R Q pc lv st X h cells slots := by
  intro p e s m args below meth c C H locs ls hP hz hS hl
  exact lv_ldc C.1 C.2.1 C.2.2.2.2.2.1 (C.2.2.2.2.2.2.1 _ hw) hd (kk p e s m args below meth c C H locs ls hP hz hS hl)
theorem fr_ldcw {i : Nat} {v : Int32} (hd : decode M.2.1 pc = .ok (.ldc_w i, 3)) (hw : Cond.constant M.1.cls i v ∈ fd_gt) (kk : fd_A g M E R Q (pc + 3) lv (.int v :: st) X h cells slots) : fd_A g M E R Q pc lv st X h cells slots := by
  intro p e s m args below meth c C H locs ls hP hz hS hl
  exact lv_ldcw C.1 C.2.1 C.2.2.2.2.2.1 (C.2.2.2.2.2.2.1 _ hw) hd (kk p e s m args below meth c C H locs ls hP hz hS hl)
theorem fr_ldc2 {i : Nat} {v : Int64} (hd : decode M.2.1 pc = .ok (.ldc2_w i, 3)) (hw : Cond.constantLong M.1.cls i v ∈ fd_gt) (kk : fd_A g M E R Q (pc + 3) lv (.long v :: st) X h cells slots) : fd_A g M E R Q pc lv st X h cells slots := by
  intro p e s m args below meth c C H locs ls hP hz hS hl
  exact lv_ldc2 C.1 C.2.1 C.2.2.2.2.2.1 (C.2.2.2.2.2.2.1 _ hw) hd (kk p e s m args below meth c C H locs ls hP hz hS hl)
theorem fr_if_eq {x : Int32} {off : Int} (tgt : Nat) (hd : decode M.2.1 pc = .ok (.ifCond .eq off, 3)) (ht : (pc : Int) + off = (tgt : Int)) (kt : x = 0 → fd_A g M E R Q tgt lv st X h cells slots) (kf : ¬ x = 0 → fd_A g M E R Q (pc + 3) lv st X h cells slots) : fd_A g M E R Q pc lv (.int x :: st) X h cells slots := by
  intro p e s m args below meth c C H locs ls hP hz hS hl
  exact lv_if_eq C.1 C.2.1 hd ht (fun q => kt q p e s m args below meth c C H locs ls hP hz hS hl) (fun q => kf q p e s m args below meth c C H locs ls hP hz hS hl)
theorem fr_icmp_eq {x y : Int32} {off : Int} (tgt : Nat) (hd : decode M.2.1 pc = .ok (.if_icmp .eq off, 3)) (ht : (pc : Int) + off = (tgt : Int)) (kt : x = y → fd_A g M E R Q tgt lv st X h cells slots) (kf : ¬ x = y → fd_A g M E R Q (pc + 3) lv st X h cells slots) : fd_A g M E R Q pc lv (.int y :: .int x :: st) X h cells slots := by
  intro p e s m args below meth c C H locs ls hP hz hS hl
  exact lv_icmp_eq C.1 C.2.1 hd ht (fun q => kt q p e s m args below meth c C H locs ls hP hz hS hl) (fun q => kf q p e s m args below meth c C H locs ls hP hz hS hl)
theorem fr_if_ne {x : Int32} {off : Int} (tgt : Nat) (hd : decode M.2.1 pc = .ok (.ifCond .ne off, 3)) (ht : (pc : Int) + off = (tgt : Int)) (kt : ¬ x = 0 → fd_A g M E R Q tgt lv st X h cells slots) (kf : x = 0 → fd_A g M E R Q (pc + 3) lv st X h cells slots) : fd_A g M E R Q pc lv (.int x :: st) X h cells slots := by
  intro p e s m args below meth c C H locs ls hP hz hS hl
  exact lv_if_ne C.1 C.2.1 hd ht (fun q => kt q p e s m args below meth c C H locs ls hP hz hS hl) (fun q => kf q p e s m args below meth c C H locs ls hP hz hS hl)
theorem fr_icmp_ne {x y : Int32} {off : Int} (tgt : Nat) (hd : decode M.2.1 pc = .ok (.if_icmp .ne off, 3)) (ht : (pc : Int) + off = (tgt : Int)) (kt : ¬ x = y → fd_A g M E R Q tgt lv st X h cells slots) (kf : x = y → fd_A g M E R Q (pc + 3) lv st X h cells slots) : fd_A g M E R Q pc lv (.int y :: .int x :: st) X h cells slots := by
  intro p e s m args below meth c C H locs ls hP hz hS hl
  exact lv_icmp_ne C.1 C.2.1 hd ht (fun q => kt q p e s m args below meth c C H locs ls hP hz hS hl) (fun q => kf q p e s m args below meth c C H locs ls hP hz hS hl)
theorem fr_if_lt {x : Int32} {off : Int} (tgt : Nat) (hd : decode M.2.1 pc = .ok (.ifCond .lt off, 3)) (ht : (pc : Int) + off = (tgt : Int)) (kt : x < 0 → fd_A g M E R Q tgt lv st X h cells slots) (kf : ¬ x < 0 → fd_A g M E R Q (pc + 3) lv st X h cells slots) : fd_A g M E R Q pc lv (.int x :: st) X h cells slots := by
  intro p e s m args below meth c C H locs ls hP hz hS hl
  exact lv_if_lt C.1 C.2.1 hd ht (fun q => kt q p e s m args below meth c C H locs ls hP hz hS hl) (fun q => kf q p e s m args below meth c C H locs ls hP hz hS hl)
theorem fr_icmp_lt {x y : Int32} {off : Int} (tgt : Nat) (hd : decode M.2.1 pc = .ok (.if_icmp .lt off, 3)) (ht : (pc : Int) + off = (tgt : Int)) (kt : x < y → fd_A g M E R Q tgt lv st X h cells slots) (kf : ¬ x < y → fd_A g M E R Q (pc + 3) lv st X h cells slots) : fd_A g M E R Q pc lv (.int y :: .int x :: st) X h cells slots := by
  intro p e s m args below meth c C H locs ls hP hz hS hl
  exact lv_icmp_lt C.1 C.2.1 hd ht (fun q => kt q p e s m args below meth c C H locs ls hP hz hS hl) (fun q => kf q p e s m args below meth c C H locs ls hP hz hS hl)
theorem fr_if_ge {x : Int32} {off : Int} (tgt : Nat) (hd : decode M.2.1 pc = .ok (.ifCond .ge off, 3)) (ht : (pc : Int) + off = (tgt : Int)) (kt : 0 ≤ x → fd_A g M E R Q tgt lv st X h cells slots) (kf : ¬ 0 ≤ x → fd_A g M E R Q (pc + 3) lv st X h cells slots) : fd_A g M E R Q pc lv (.int x :: st) X h cells slots := by
  intro p e s m args below meth c C H locs ls hP hz hS hl
  exact lv_if_ge C.1 C.2.1 hd ht (fun q => kt q p e s m args below meth c C H locs ls hP hz hS hl) (fun q => kf q p e s m args below meth c C H locs ls hP hz hS hl)
theorem fr_icmp_ge {x y : Int32} {off : Int} (tgt : Nat) (hd : decode M.2.1 pc = .ok (.if_icmp .ge off, 3)) (ht : (pc : Int) + off = (tgt : Int)) (kt : y ≤ x → fd_A g M E R Q tgt lv st X h cells slots) (kf : ¬ y ≤ x → fd_A g M E R Q (pc + 3) lv st X h cells slots) : fd_A g M E R Q pc lv (.int y :: .int x :: st) X h cells slots := by
  intro p e s m args below meth c C H locs ls hP hz hS hl
  exact lv_icmp_ge C.1 C.2.1 hd ht (fun q => kt q p e s m args below meth c C H locs ls hP hz hS hl) (fun q => kf q p e s m args below meth c C H locs ls hP hz hS hl)
theorem fr_if_gt {x : Int32} {off : Int} (tgt : Nat) (hd : decode M.2.1 pc = .ok (.ifCond .gt off, 3)) (ht : (pc : Int) + off = (tgt : Int)) (kt : 0 < x → fd_A g M E R Q tgt lv st X h cells slots) (kf : ¬ 0 < x → fd_A g M E R Q (pc + 3) lv st X h cells slots) : fd_A g M E R Q pc lv (.int x :: st) X h cells slots := by
  intro p e s m args below meth c C H locs ls hP hz hS hl
  exact lv_if_gt C.1 C.2.1 hd ht (fun q => kt q p e s m args below meth c C H locs ls hP hz hS hl) (fun q => kf q p e s m args below meth c C H locs ls hP hz hS hl)
theorem fr_icmp_gt {x y : Int32} {off : Int} (tgt : Nat) (hd : decode M.2.1 pc = .ok (.if_icmp .gt off, 3)) (ht : (pc : Int) + off = (tgt : Int)) (kt : y < x → fd_A g M E R Q tgt lv st X h cells slots) (kf : ¬ y < x → fd_A g M E R Q (pc + 3) lv st X h cells slots) : fd_A g M E R Q pc lv (.int y :: .int x :: st) X h cells slots := by
  intro p e s m args below meth c C H locs ls hP hz hS hl
  exact lv_icmp_gt C.1 C.2.1 hd ht (fun q => kt q p e s m args below meth c C H locs ls hP hz hS hl) (fun q => kf q p e s m args below meth c C H locs ls hP hz hS hl)
theorem fr_if_le {x : Int32} {off : Int} (tgt : Nat) (hd : decode M.2.1 pc = .ok (.ifCond .le off, 3)) (ht : (pc : Int) + off = (tgt : Int)) (kt : x ≤ 0 → fd_A g M E R Q tgt lv st X h cells slots) (kf : ¬ x ≤ 0 → fd_A g M E R Q (pc + 3) lv st X h cells slots) : fd_A g M E R Q pc lv (.int x :: st) X h cells slots := by
  intro p e s m args below meth c C H locs ls hP hz hS hl
  exact lv_if_le C.1 C.2.1 hd ht (fun q => kt q p e s m args below meth c C H locs ls hP hz hS hl) (fun q => kf q p e s m args below meth c C H locs ls hP hz hS hl)
theorem fr_icmp_le {x y : Int32} {off : Int} (tgt : Nat) (hd : decode M.2.1 pc = .ok (.if_icmp .le off, 3)) (ht : (pc : Int) + off = (tgt : Int)) (kt : x ≤ y → fd_A g M E R Q tgt lv st X h cells slots) (kf : ¬ x ≤ y → fd_A g M E R Q (pc + 3) lv st X h cells slots) : fd_A g M E R Q pc lv (.int y :: .int x :: st) X h cells slots := by
  intro p e s m args below meth c C H locs ls hP hz hS hl
  exact lv_icmp_le C.1 C.2.1 hd ht (fun q => kt q p e s m args below meth c C H locs ls hP hz hS hl) (fun q => kf q p e s m args below meth c C H locs ls hP hz hS hl)
theorem fr_bz {b : Bool} {off : Int} (tgt : Nat) (hd : decode M.2.1 pc = .ok (.ifCond .eq off, 3)) (ht : (pc : Int) + off = (tgt : Int)) (kt : ¬ b = true → fd_A g M E R Q tgt lv st X h cells slots) (kf : b = true → fd_A g M E R Q (pc + 3) lv st X h cells slots) : fd_A g M E R Q pc lv (.int (fd_b b) :: st) X h cells slots := fr_if_eq tgt hd ht (fun q => kt ((fd_b_0 b).mp q)) (fun q => kf (by cases b <;> first | rfl | exact absurd rfl q))
theorem fr_bn {b : Bool} {off : Int} (tgt : Nat) (hd : decode M.2.1 pc = .ok (.ifCond .ne off, 3)) (ht : (pc : Int) + off = (tgt : Int)) (kt : b = true → fd_A g M E R Q tgt lv st X h cells slots) (kf : ¬ b = true → fd_A g M E R Q (pc + 3) lv st X h cells slots) : fd_A g M E R Q pc lv (.int (fd_b b) :: st) X h cells slots := fr_if_ne tgt hd ht (fun q => kt (by cases b <;> first | rfl | exact absurd rfl q)) (fun q => kf ((fd_b_0 b).mp q))
theorem fr_goto {off : Int} (tgt : Nat) (hd : decode M.2.1 pc = .ok (.goto off, 3)) (ht : (pc : Int) + off = (tgt : Int)) (kk : fd_A g M E R Q tgt lv st X h cells slots) : fd_A g M E R Q pc lv st X h cells slots := by
  intro p e s m args below meth c C H locs ls hP hz hS hl
  exact lv_goto C.1 C.2.1 hd ht (kk p e s m args below meth c C H locs ls hP hz hS hl)
theorem fr_lookup {dflt : Int} {ps : Array (Int × Int)} {len : Nat} {x : Int32} {off : Int} (tgt : Nat) (hd : decode M.2.1 pc = .ok (.lookupswitch dflt ps, len)) (hp : (ps.toList.zip (ps.toList.drop 1)).all (fun (a, next) => a.1 < next.1) = true) (ho : Op.lookupswitch.offset ps.toList dflt x.toInt = off) (ht : (pc : Int) + off = (tgt : Int)) (kk : fd_A g M E R Q tgt lv st X h cells slots) : fd_A g M E R Q pc lv (.int x :: st) X h cells slots := by
  intro p e s m args below meth c C H locs ls hP hz hS hl
  exact lv_lookup C.1 C.2.1 hd hp ho ht (kk p e s m args below meth c C H locs ls hP hz hS hl)
theorem fr_tabOut {dflt lo hi : Int} {offs : Array Int} {len : Nat} {x : Int32} (tgt : Nat) (hd : decode M.2.1 pc = .ok (.tableswitch dflt lo hi offs, len)) (hx : x.toInt < lo ∨ hi < x.toInt) (ht : (pc : Int) + dflt = (tgt : Int)) (kk : fd_A g M E R Q tgt lv st X h cells slots) : fd_A g M E R Q pc lv (.int x :: st) X h cells slots := by
  intro p e s m args below meth c C H locs ls hP hz hS hl
  exact lv_tableOut C.1 C.2.1 hd hx ht (kk p e s m args below meth c C H locs ls hP hz hS hl)
theorem fr_tabIn {dflt lo hi : Int} {offs : Array Int} {len : Nat} {x : Int32} {off : Int} (tgt : Nat) (hd : decode M.2.1 pc = .ok (.tableswitch dflt lo hi offs, len)) (h1 : ¬ x.toInt < lo) (h2 : ¬ hi < x.toInt) (ho : offs[(x.toInt - lo).toNat]? = some off) (ht : (pc : Int) + off = (tgt : Int)) (kk : fd_A g M E R Q tgt lv st X h cells slots) : fd_A g M E R Q pc lv (.int x :: st) X h cells slots := by
  intro p e s m args below meth c C H locs ls hP hz hS hl
  exact lv_tableIn C.1 C.2.1 hd h1 h2 ho ht (kk p e s m args below meth c C H locs ls hP hz hS hl)
theorem fr_loc (ks : List Nat) (hq : lv_pick lv ks = lv') (kk : fd_A g M E R Q pc lv' st X h cells slots) : fd_A g M E R Q pc lv st X h cells slots := by
  intro p e s m args below meth c C H locs ls hP hz hS hl
  exact kk p e s m args below meth c C H locs ls hP hz hS (lv_sub hl ks hq)
theorem fr_nmi {x y : Int32} (e : y = x) (kk : fd_A g M E R Q pc lv (.int y :: st) X h cells slots) : fd_A g M E R Q pc lv (.int x :: st) X h cells slots := by rw [← e]; exact kk
theorem fr_nml {x y : Int64} (e : y = x) (kk : fd_A g M E R Q pc lv (.long y :: st) X h cells slots) : fd_A g M E R Q pc lv (.long x :: st) X h cells slots := by rw [← e]; exact kk
/-- a field's link: the using class, its pool's place, the class, the field -/
def fd_FL (own : String) (idx ci j : Nat) : Prop := ∃ (C : String) (T : u_T) (N : Nat), vwCl[ci]? = some (C, T, N) ∧ (∀ w ∈ u_ws C T N, w ∈ fd_gt) ∧ j < N ∧ Cond.fieldLink own idx (T j).1 (T j).2.1 (T j).2.2.1 ∈ fd_gt
/-- of a class: its fields' types -/
def fd_FT (ci j : Nat) (ty : FieldType) (fin : Bool) : Prop := ∃ (C : String) (T : u_T) (N : Nat) (ty0 : Nat → FieldType), vwCl[ci]? = some (C, T, N) ∧ (∀ k, k < N → parseFieldDescriptor (T k).2.2.1 = some (ty0 k)) ∧ (∀ a, a < N → ∀ b, b < N → a ≠ b → (T a).2.1 ≠ (T b).2.1) ∧ (T j).2.2.2 = fin ∧ parseFieldDescriptor (T j).2.2.1 = some ty ∧ (T j).1 = C
theorem fr_getI {k ci j idx : Nat} {fs : List fd_F} (hd : decode M.2.1 pc = .ok (.getfield idx, 3)) (hf : fd_FL M.1.cls idx ci j) (hk : k < X.1) (hs : X.2 k = .inr (ci, fs)) (hv : fs[j]? = some (some (.inr false))) (kk : fd_A g M E R Q (pc + 3) lv (.int (h.1 k j) :: st) X h cells slots) : fd_A g M E R Q pc lv (.ref (g.2.2.2 + k) :: st) X h cells slots := by
  intro p e s m args below meth c C H locs ls hP hz hS hl
  obtain ⟨Cn, T, N, hc, hin, hj, hw⟩ := hf
  have he := fd_w_get (z := g.2.2.2) (cA := g.2.2.1) (h := h) hk
  rw [hs] at he
  exact va_get C.1 C.2.1 C.2.2.2.2.2.2.1 hin C.2.2.2.2.2.1 C.2.2.2.2.2.2.2.1.1 hP k he hc j hj (C.2.2.2.2.2.2.1 _ hw) (fun _ h9 => h9) (fd_fld hv) hd (kk p e s m args below meth c C H locs ls hP hz hS hl)
theorem fr_getL {k ci j idx : Nat} {fs : List fd_F} (hd : decode M.2.1 pc = .ok (.getfield idx, 3)) (hf : fd_FL M.1.cls idx ci j) (hk : k < X.1) (hs : X.2 k = .inr (ci, fs)) (hv : fs[j]? = some (some (.inr true))) (kk : fd_A g M E R Q (pc + 3) lv (.long (h.2 k j) :: st) X h cells slots) : fd_A g M E R Q pc lv (.ref (g.2.2.2 + k) :: st) X h cells slots := by
  intro p e s m args below meth c C H locs ls hP hz hS hl
  obtain ⟨Cn, T, N, hc, hin, hj, hw⟩ := hf
  have he := fd_w_get (z := g.2.2.2) (cA := g.2.2.1) (h := h) hk
  rw [hs] at he
  exact va_get C.1 C.2.1 C.2.2.2.2.2.2.1 hin C.2.2.2.2.2.1 C.2.2.2.2.2.2.2.1.1 hP k he hc j hj (C.2.2.2.2.2.2.1 _ hw) (fun _ h9 => h9) (fd_fld hv) hd (kk p e s m args below meth c C H locs ls hP hz hS hl)
theorem fr_getR {k ci j idx q : Nat} {fs : List fd_F} (hd : decode M.2.1 pc = .ok (.getfield idx, 3)) (hf : fd_FL M.1.cls idx ci j) (hk : k < X.1) (hs : X.2 k = .inr (ci, fs)) (hv : fs[j]? = some (some (.inl q))) (kk : fd_A g M E R Q (pc + 3) lv (.ref (g.2.2.2 + q) :: st) X h cells slots) : fd_A g M E R Q pc lv (.ref (g.2.2.2 + k) :: st) X h cells slots := by
  intro p e s m args below meth c C H locs ls hP hz hS hl
  obtain ⟨Cn, T, N, hc, hin, hj, hw⟩ := hf
  have he := fd_w_get (z := g.2.2.2) (cA := g.2.2.1) (h := h) hk
  rw [hs] at he
  exact va_get C.1 C.2.1 C.2.2.2.2.2.2.1 hin C.2.2.2.2.2.1 C.2.2.2.2.2.2.2.1.1 hP k he hc j hj (C.2.2.2.2.2.2.1 _ hw) (fun _ h9 => h9) (fd_fld hv) hd (kk p e s m args below meth c C H locs ls hP hz hS hl)
theorem fd_upd {g : fd_G} {X X' : fd_X} {h h' : fd_H} {H H1 : Heap} {k : Nat} (hk : k < X.1) (hX : X'.1 = X.1) (hs : ∀ a, a ≠ k → X'.2 a = X.2 a) (h1 : ∀ a, a ≠ k → h'.1 a = h.1 a) (h2 : ∀ a, a ≠ k → h'.2 a = h.2 a) (hP : va_P g.2.1 vwCl (fd_w g.2.2.2 g.2.2.1 X h) H) (he : va_at g.2.1 vwCl (g.2.2.2 + k, fd_cell g.2.2.2 g.2.2.1 h' k (X'.2 k)) H1) (oq : ∀ q : Nat, q ≠ g.2.2.2 + k → H1[q]? = H[q]?) : va_P g.2.1 vwCl (fd_w g.2.2.2 g.2.2.1 X' h') H1 := by
  rw [← fd_w_set (h := h) (h' := h') hk hX hs h1 h2]
  exact hP.set (fd_w_D _ _ _ _) (fd_w_get hk) he oq
/-- a field is written: the machine's side -/
theorem fd_putW {p : Program} {l : Launch} {e : Env} {s : State} {m : MethodId} {args : Array Value} {below : List Frame} {meth : Method} {c : Code} {H : Heap} {locs : List Loc} {Q2 : State → Prop} {ls : Array Slot} {cc : ByteArray} {D : va_G} {tys : List (ClassId × FieldType)} {own : String} {a idx ci j : Nat} {ty : FieldType} {v : Value} {fs : List Value} (fin : Bool)
    (hx : p.tables.exec = Jvm.exec) (hb : c.code = cc) (hown : s.vm.findClass own = some m.cls) (hts : ∀ w ∈ fd_gt, w.before args s = true) (hK : va_K D vwCl tys s) (hf : fd_FL own idx ci j) (hft : fd_FT ci j ty fin) (hinit : fin = true → meth.name = "<init>" ∧ (vwCl[ci]?).map (fun q => q.1) = some own) (hn : narrow ty v = v) (hfit : fits ty v = true) (hl : j < fs.length) (he : va_at D vwCl (a, .inr (ci, fs)) H) (hd : decode cc pc = .ok (.putfield idx, 3))
    (kk : ∀ H1 : Heap, ∀ i : Nat, va_at D vwCl (a, .inr (ci, fs.set j v)) H1 → H1.size = H.size → (∀ q, q ≠ a → H1[q]? = H[q]?) → W p l e R s m args below meth c H1 (locs ++ [⟨a, i⟩]) cells slots Q2 (F0 m (pc + 3) ls st)) : W p l e R s m args below meth c H locs cells slots Q2 (F0 m pc ls (v :: .ref a :: st)) := by
  obtain ⟨Cn, T, N, hc, hin, hj, hw⟩ := hf
  obtain ⟨Cn2, T2, N2, ty0, hc2, hty, hnm, hfin, hpd, hdecl⟩ := hft
  cases hc.symm.trans hc2
  have hap := va_apart (own := own) hts hin ty0 hty hnm hK hc
  obtain ⟨r, h1, cell, q1, q2, q3, q4⟩ := he
  have hr : r = (Cn, T, N) := Option.some.inj (h1.symm.trans hc)
  subst hr
  obtain ⟨hSl, hfc, kC, hkC, hkind⟩ := hK.1 ci _ hc
  obtain ⟨cf, kf, fi, f, hi, hsl⟩ := hSl j hj
  have hlay := hts _ (hin _ (u_in_lay hj))
  have hst := (u_facts hfc hkC (u_lays hts hin hj) hi).1
  unfold u_lay at hlay
  have go : ∀ H' : Heap, H'[a]? = some (cell.setSlot f.slot v) → H'.size = H.size → (∀ q, q ≠ a → H'[q]? = H[q]?) → W p l e R s m args below meth c H' (locs ++ [⟨a, f.slot⟩]) cells slots Q2 (F0 m (pc + 3) ls st) := by
    intro H' e1 e2 e3
    rw [hsl] at e1
    exact kk H' _ ⟨_, hc, t_OB.to (V := updV (vp_V fs) j v) ⟨_, e1, q2, q3, t_set q4 hap hj v⟩ (fun i _ => vp_updV_set hl v i)⟩ e2 e3
  cases fin with
  | false =>
    rw [if_neg (by rw [hfin]; decide)] at hlay
    have h6 := u_store hfc hkC hkind hlay hi hpd hn hfit
    exact W.putK hx hb (f := f) ⟨hown, hts _ hw, ⟨_, _, _, hi⟩, hst⟩ (by rw [q2]; exact h6) q1 q3 (by rw [hsl]; exact k2_hasslot (q4 j hj)) rfl rfl hd go
  | true =>
    rw [if_pos hfin] at hlay
    obtain ⟨hin2, hcl⟩ := hinit rfl
    rw [hc] at hcl
    have hco : Cn = own := Option.some.inj hcl
    have hcf : m.cls = cf := by
      obtain ⟨_, _, c', _, _, _, -, -, hf', -, -, -, hown2, -⟩ := Cond.laysFinal_spec hlay
      have e1 : c' = cf := by have := hi.symm.trans hf'; simp at this; exact this.1.symm
      rw [hdecl, hco] at hown2
      rw [← e1]; exact Option.some.inj (hown.symm.trans hown2)
    have h6 := u_fits hfc hkC hkind (Or.inr hlay) hi hpd hn hfit
    exact W.putFinK hx hb hown (hts _ hw) hi hst hcf hin2 (by rw [q2]; exact h6) q1 q3 (by rw [hsl]; exact k2_hasslot (q4 j hj)) rfl rfl hd go
theorem fr_putI (fin : Bool) {k ci j idx : Nat} {x : Int32} {fs : List fd_F} (hd : decode M.2.1 pc = .ok (.putfield idx, 3)) (hf : fd_FL M.1.cls idx ci j) (hft : fd_FT ci j .int fin) (hinit : fin = true → M.1.name = "<init>" ∧ (vwCl[ci]?).map (fun q => q.1) = some M.1.cls) (hk : k < X.1) (hs : X.2 k = .inr (ci, fs)) (hv : fs[j]? = some (some (.inr false))) (kk : fd_A g M E R Q (pc + 3) lv st X (fd_ui h k j (x)) cells slots) : fd_A g M E R Q pc lv (.int (x) :: .ref (g.2.2.2 + k) :: st) X h cells slots := by
  intro p e s m args below meth c C H locs ls hP hz hS hl
  have he := hP k _ (fd_w_get hk)
  rw [hs] at he
  have hl9 : j < (fs.mapIdx (fd_val g.2.2.2 h k)).length := by rw [List.length_mapIdx]; exact (List.getElem?_eq_some_iff.mp hv).1
  refine fd_putW fin C.1 C.2.1 C.2.2.2.2.2.1 C.2.2.2.2.2.2.1 C.2.2.2.2.2.2.2.1.1 hf hft (fun q => ⟨C.2.2.2.2.2.2.2.2.2.1.trans (hinit q).1, (hinit q).2⟩) rfl rfl hl9 he hd (fun H1 i e1 z1 oq => ?_)
  refine kk p e s m args below meth c C H1 _ ls (fd_upd (h := h) (h' := fd_ui h k j (x)) hk rfl (fun _ _ => rfl) fd_ui_ne (fun _ _ => rfl) hP ?_ oq) (z1.trans hz) (hS.put z1 oq (Nat.le_add_right _ _)) hl
  rw [hs]
  show va_at _ _ (_, Sum.inr (ci, fs.mapIdx (fd_val g.2.2.2 (fd_ui h k j (x)) k))) H1
  rw [fd_fld_setI hv]
  exact e1
theorem fr_putL (fin : Bool) {k ci j idx : Nat} {x : Int64} {fs : List fd_F} (hd : decode M.2.1 pc = .ok (.putfield idx, 3)) (hf : fd_FL M.1.cls idx ci j) (hft : fd_FT ci j .long fin) (hinit : fin = true → M.1.name = "<init>" ∧ (vwCl[ci]?).map (fun q => q.1) = some M.1.cls) (hk : k < X.1) (hs : X.2 k = .inr (ci, fs)) (hv : fs[j]? = some (some (.inr true))) (kk : fd_A g M E R Q (pc + 3) lv st X (fd_ul h k j (x)) cells slots) : fd_A g M E R Q pc lv (.long (x) :: .ref (g.2.2.2 + k) :: st) X h cells slots := by
  intro p e s m args below meth c C H locs ls hP hz hS hl
  have he := hP k _ (fd_w_get hk)
  rw [hs] at he
  have hl9 : j < (fs.mapIdx (fd_val g.2.2.2 h k)).length := by rw [List.length_mapIdx]; exact (List.getElem?_eq_some_iff.mp hv).1
  refine fd_putW fin C.1 C.2.1 C.2.2.2.2.2.1 C.2.2.2.2.2.2.1 C.2.2.2.2.2.2.2.1.1 hf hft (fun q => ⟨C.2.2.2.2.2.2.2.2.2.1.trans (hinit q).1, (hinit q).2⟩) rfl rfl hl9 he hd (fun H1 i e1 z1 oq => ?_)
  refine kk p e s m args below meth c C H1 _ ls (fd_upd (h := h) (h' := fd_ul h k j (x)) hk rfl (fun _ _ => rfl) (fun _ _ => rfl) fd_ul_ne hP ?_ oq) (z1.trans hz) (hS.put z1 oq (Nat.le_add_right _ _)) hl
  rw [hs]
  show va_at _ _ (_, Sum.inr (ci, fs.mapIdx (fd_val g.2.2.2 (fd_ul h k j (x)) k))) H1
  rw [fd_fld_setL hv]
  exact e1
theorem fr_putZ (fin : Bool) {k ci j idx : Nat} {x : Bool} {fs : List fd_F} (hd : decode M.2.1 pc = .ok (.putfield idx, 3)) (hf : fd_FL M.1.cls idx ci j) (hft : fd_FT ci j .boolean fin) (hinit : fin = true → M.1.name = "<init>" ∧ (vwCl[ci]?).map (fun q => q.1) = some M.1.cls) (hk : k < X.1) (hs : X.2 k = .inr (ci, fs)) (hv : fs[j]? = some (some (.inr false))) (kk : fd_A g M E R Q (pc + 3) lv st X (fd_ui h k j (fd_b x)) cells slots) : fd_A g M E R Q pc lv (.int (fd_b x) :: .ref (g.2.2.2 + k) :: st) X h cells slots := by
  intro p e s m args below meth c C H locs ls hP hz hS hl
  have he := hP k _ (fd_w_get hk)
  rw [hs] at he
  have hl9 : j < (fs.mapIdx (fd_val g.2.2.2 h k)).length := by rw [List.length_mapIdx]; exact (List.getElem?_eq_some_iff.mp hv).1
  refine fd_putW fin C.1 C.2.1 C.2.2.2.2.2.1 C.2.2.2.2.2.2.1 C.2.2.2.2.2.2.2.1.1 hf hft (fun q => ⟨C.2.2.2.2.2.2.2.2.2.1.trans (hinit q).1, (hinit q).2⟩) (fd_b_n x) (fd_b_f x) hl9 he hd (fun H1 i e1 z1 oq => ?_)
  refine kk p e s m args below meth c C H1 _ ls (fd_upd (h := h) (h' := fd_ui h k j (fd_b x)) hk rfl (fun _ _ => rfl) fd_ui_ne (fun _ _ => rfl) hP ?_ oq) (z1.trans hz) (hS.put z1 oq (Nat.le_add_right _ _)) hl
  rw [hs]
  show va_at _ _ (_, Sum.inr (ci, fs.mapIdx (fd_val g.2.2.2 (fd_ui h k j (fd_b x)) k))) H1
  rw [fd_fld_setI hv]
  exact e1
theorem fd_cA {C0 : Prop} {s : State} (hK : fd_K g.2.1 g.2.2.1 s) (t : Nat) (ty : FieldType) (ht : (fd_tys g.2.2.1)[t]? = some (g.2.2.1 t, ty)) : ArrOfT s (g.2.2.1 t) ty := (hK.1.2 t _ ht).1
theorem fd_inr {cI : ClassId} {n : Nat} {f : Nat → Value} {i : Int32} (hin : fd_in i n = true) : ¬ (i < 0 ∨ (arrV cI n f).slots.size ≤ i.toNatClampNeg) := by rw [arrV_size]; exact fd_in_p hin
theorem fd_inl {i : Int32} {n : Nat} (hin : fd_in i n = true) : i.toNatClampNeg < n := Nat.not_le.mp fun q => fd_in_p hin (Or.inr q)
theorem fr_iald {k n : Nat} {i : Int32} {rf : Nat → Option Nat} (hd : decode M.2.1 pc = .ok (.iaload, 1)) (hk : k < X.1) (hs : X.2 k = .inl (0, n, rf)) (hin : fd_in i n = true) (kk : fd_A g M E R Q (pc + 1) lv (.int (h.1 k i.toNatClampNeg) :: st) X h cells slots) : fd_A g M E R Q pc lv (.int i :: .ref (g.2.2.2 + k) :: st) X h cells slots := by
  intro p e s m args below meth c C H locs ls hP hz hS hl
  have he := fd_w_get (z := g.2.2.2) (cA := g.2.2.1) (h := h) hk
  rw [hs] at he
  exact va_iald C.1 C.2.1 C.2.2.2.2.2.2.2.1.1 hP k 0 he rfl (fd_in_p hin) hd (kk p e s m args below meth c C H locs ls hP hz hS hl)
theorem fr_lald {k n : Nat} {i : Int32} {rf : Nat → Option Nat} (hd : decode M.2.1 pc = .ok (.laload, 1)) (hk : k < X.1) (hs : X.2 k = .inl (1, n, rf)) (hin : fd_in i n = true) (kk : fd_A g M E R Q (pc + 1) lv (.long (h.2 k i.toNatClampNeg) :: st) X h cells slots) : fd_A g M E R Q pc lv (.int i :: .ref (g.2.2.2 + k) :: st) X h cells slots := by
  intro p e s m args below meth c C H locs ls hP hz hS hl
  have he := fd_w_get (z := g.2.2.2) (cA := g.2.2.1) (h := h) hk
  rw [hs] at he
  exact va_lald C.1 C.2.1 C.2.2.2.2.2.2.2.1.1 hP k 1 he rfl (fd_in_p hin) hd (kk p e s m args below meth c C H locs ls hP hz hS hl)
theorem fr_zald {k n : Nat} {i : Int32} {rf : Nat → Option Nat} (hd : decode M.2.1 pc = .ok (.baload, 1)) (hk : k < X.1) (hs : X.2 k = .inl (2, n, rf)) (hin : fd_in i n = true) (kk : fd_A g M E R Q (pc + 1) lv (.int (h.1 k i.toNatClampNeg) :: st) X h cells slots) : fd_A g M E R Q pc lv (.int i :: .ref (g.2.2.2 + k) :: st) X h cells slots := by
  intro p e s m args below meth c C H locs ls hP hz hS hl
  have he := fd_w_get (z := g.2.2.2) (cA := g.2.2.1) (h := h) hk
  rw [hs] at he
  exact va_zald C.1 C.2.1 C.2.2.2.2.2.2.2.1.1 hP k 2 he rfl (fd_in_p hin) hd (kk p e s m args below meth c C H locs ls hP hz hS hl)
theorem fr_aaldT {k n q : Nat} {i : Int32} {rf : Nat → Option Nat} (hd : decode M.2.1 pc = .ok (.aaload, 1)) (hk : k < X.1) (hs : X.2 k = .inl (3, n, rf)) (hin : fd_in i n = true) (hq : rf i.toNatClampNeg = some q) (kk : fd_A g M E R Q (pc + 1) lv (.ref (g.2.2.2 + q) :: st) X h cells slots) : fd_A g M E R Q pc lv (.int i :: .ref (g.2.2.2 + k) :: st) X h cells slots := by
  intro p e s m args below meth c C H locs ls hP hz hS hl
  have he := fd_w_get (z := g.2.2.2) (cA := g.2.2.1) (h := h) hk
  rw [hs] at he
  refine va_aldq C.1 C.2.1 C.2.2.2.2.2.2.2.1.1 hP k 3 he rfl (fd_in_p hin) hd ?_
  rw [hq]
  exact kk p e s m args below meth c C H locs ls hP hz hS hl
theorem fr_aaldS {k n q : Nat} {i : Int32} {rf : Nat → Option Nat} (hd : decode M.2.1 pc = .ok (.aaload, 1)) (hk : k < X.1) (hs : X.2 k = .inl (4, n, rf)) (hin : fd_in i n = true) (hq : rf i.toNatClampNeg = some q) (kk : fd_A g M E R Q (pc + 1) lv (.ref (g.2.2.2 + q) :: st) X h cells slots) : fd_A g M E R Q pc lv (.int i :: .ref (g.2.2.2 + k) :: st) X h cells slots := by
  intro p e s m args below meth c C H locs ls hP hz hS hl
  have he := fd_w_get (z := g.2.2.2) (cA := g.2.2.1) (h := h) hk
  rw [hs] at he
  refine va_aldq C.1 C.2.1 C.2.2.2.2.2.2.2.1.1 hP k 4 he rfl (fd_in_p hin) hd ?_
  rw [hq]
  exact kk p e s m args below meth c C H locs ls hP hz hS hl
theorem fr_alen {k n t : Nat} {rf : Nat → Option Nat} {v : Int32} (hd : decode M.2.1 pc = .ok (.arraylength, 1)) (hk : k < X.1) (hs : X.2 k = .inl (t, n, rf)) (ht : t < 5) (hv : Int32.ofNat n = v) (kk : fd_A g M E R Q (pc + 1) lv (.int v :: st) X h cells slots) : fd_A g M E R Q pc lv (.ref (g.2.2.2 + k) :: st) X h cells slots := by
  intro p e s m args below meth c C H locs ls hP hz hS hl
  have he := fd_w_get (z := g.2.2.2) (cA := g.2.2.1) (h := h) hk
  rw [hs] at he
  obtain ⟨ty, hty⟩ : ∃ ty, (fd_tys g.2.2.1)[t]? = some (g.2.2.1 t, ty) := by
    match t, ht with
    | 0, _ => exact ⟨_, rfl⟩
    | 1, _ => exact ⟨_, rfl⟩
    | 2, _ => exact ⟨_, rfl⟩
    | 3, _ => exact ⟨_, rfl⟩
    | 4, _ => exact ⟨_, rfl⟩
  exact va_alen C.1 C.2.1 C.2.2.2.2.2.2.2.1.1 hP k t he hty hv hd (kk p e s m args below meth c C H locs ls hP hz hS hl)
theorem fr_iast {k n : Nat} {i : Int32} {x : Int32} {rf : Nat → Option Nat} (hd : decode M.2.1 pc = .ok (.iastore, 1)) (hk : k < X.1) (hs : X.2 k = .inl (0, n, rf)) (hin : fd_in i n = true) (kk : fd_A g M E R Q (pc + 1) lv st X (fd_ui h k i.toNatClampNeg (x)) cells slots) : fd_A g M E R Q pc lv (.int (x) :: .int i :: .ref (g.2.2.2 + k) :: st) X h cells slots := by
  intro p e s m args below meth c C H locs ls hP hz hS hl
  have he := hP k _ (fd_w_get hk)
  rw [hs] at he
  have he : H[g.2.2.2 + k]? = some (arrV (g.2.2.1 0) n (fun j => .int (h.1 k j))) := he
  refine W.iast C.1 C.2.1 he ((C.2.2.2.2.2.2.2.1.1.2 0 _ rfl).1 n _) (fun q => by cases q) (fd_inr hin) rfl rfl hd (fun H1 e1 z1 oq => ?_)
  refine kk p e s m args below meth c C H1 _ ls (fd_upd (h := h) (h' := fd_ui h k i.toNatClampNeg (x)) hk rfl (fun _ _ => rfl) fd_ui_ne (fun _ _ => rfl) hP ?_ oq) (z1.trans hz) (hS.put z1 oq (Nat.le_add_right _ _)) hl
  rw [hs]
  show H1[g.2.2.2 + k]? = some (arrV (g.2.2.1 0) n (fun j => .int ((fd_ui h k i.toNatClampNeg (x)).1 k j)))
  rw [e1, arrV_store, fd_ui_self]
  congr 2
  funext q
  by_cases hq : q = i.toNatClampNeg
  · subst hq
    simp [updV, upd]
  · simp [updV, upd, hq]
theorem fr_last {k n : Nat} {i : Int32} {x : Int64} {rf : Nat → Option Nat} (hd : decode M.2.1 pc = .ok (.lastore, 1)) (hk : k < X.1) (hs : X.2 k = .inl (1, n, rf)) (hin : fd_in i n = true) (kk : fd_A g M E R Q (pc + 1) lv st X (fd_ul h k i.toNatClampNeg (x)) cells slots) : fd_A g M E R Q pc lv (.long (x) :: .int i :: .ref (g.2.2.2 + k) :: st) X h cells slots := by
  intro p e s m args below meth c C H locs ls hP hz hS hl
  have he := hP k _ (fd_w_get hk)
  rw [hs] at he
  have he : H[g.2.2.2 + k]? = some (arrV (g.2.2.1 1) n (fun j => .long (h.2 k j))) := he
  refine W.last C.1 C.2.1 he ((C.2.2.2.2.2.2.2.1.1.2 1 _ rfl).1 n _) (fun q => by cases q) (fd_inr hin) rfl rfl hd (fun H1 e1 z1 oq => ?_)
  refine kk p e s m args below meth c C H1 _ ls (fd_upd (h := h) (h' := fd_ul h k i.toNatClampNeg (x)) hk rfl (fun _ _ => rfl) (fun _ _ => rfl) fd_ul_ne hP ?_ oq) (z1.trans hz) (hS.put z1 oq (Nat.le_add_right _ _)) hl
  rw [hs]
  show H1[g.2.2.2 + k]? = some (arrV (g.2.2.1 1) n (fun j => .long ((fd_ul h k i.toNatClampNeg (x)).2 k j)))
  rw [e1, arrV_store, fd_ul_self]
  congr 2
  funext q
  by_cases hq : q = i.toNatClampNeg
  · subst hq
    simp [updV, vp_updL]
  · simp [updV, vp_updL, hq]
theorem fr_zast {k n : Nat} {i : Int32} {x : Bool} {rf : Nat → Option Nat} (hd : decode M.2.1 pc = .ok (.bastore, 1)) (hk : k < X.1) (hs : X.2 k = .inl (2, n, rf)) (hin : fd_in i n = true) (kk : fd_A g M E R Q (pc + 1) lv st X (fd_ui h k i.toNatClampNeg (fd_b x)) cells slots) : fd_A g M E R Q pc lv (.int (fd_b x) :: .int i :: .ref (g.2.2.2 + k) :: st) X h cells slots := by
  intro p e s m args below meth c C H locs ls hP hz hS hl
  have he := hP k _ (fd_w_get hk)
  rw [hs] at he
  have he : H[g.2.2.2 + k]? = some (arrV (g.2.2.1 2) n (fun j => .int (h.1 k j))) := he
  refine W.zast C.1 C.2.1 he ((C.2.2.2.2.2.2.2.1.1.2 2 _ rfl).1 n _) (fun q => by cases q) (fd_inr hin) rfl rfl hd (fun H1 e1 z1 oq => ?_)
  refine kk p e s m args below meth c C H1 _ ls (fd_upd (h := h) (h' := fd_ui h k i.toNatClampNeg (fd_b x)) hk rfl (fun _ _ => rfl) fd_ui_ne (fun _ _ => rfl) hP ?_ oq) (z1.trans hz) (hS.put z1 oq (Nat.le_add_right _ _)) hl
  rw [hs]
  show H1[g.2.2.2 + k]? = some (arrV (g.2.2.1 2) n (fun j => .int ((fd_ui h k i.toNatClampNeg (fd_b x)).1 k j)))
  rw [e1, arrV_store, fd_ui_self]
  congr 2
  funext q
  by_cases hq : q = i.toNatClampNeg
  · subst hq
    simp [updV, upd, fd_b_n]
  · simp [updV, upd, hq]
theorem fr_iret {x : Int32} {h' : fd_H} {X' : fd_X} (hd : decode M.2.1 pc = .ok (.ireturn, 1)) (hr : M.2.2.2 = some .int) : fd_A g M E R (fd_Q g (some (.int x)) X h cells slots) pc lv [.int x] X h cells slots := by
  intro p e s m args below meth c C H locs ls hP hz hS hl
  have hlk := C.2.2.2.2.1
  exact W.iret C.1 C.2.1 (C.2.2.2.1.trans hr)  (fun t ht hW => ⟨rfl, by rw [ht]; exact hP, by rw [ht]; exact hz, hS.F ht⟩) hS.2.2 hd hlk
theorem fr_zret {x : Bool} {h' : fd_H} {X' : fd_X} (hd : decode M.2.1 pc = .ok (.ireturn, 1)) (hr : M.2.2.2 = some .boolean) : fd_A g M E R (fd_Q g (some (.int (fd_b x))) X h cells slots) pc lv [.int (fd_b x)] X h cells slots := by
  intro p e s m args below meth c C H locs ls hP hz hS hl
  have hlk := C.2.2.2.2.1
  exact W.zret (ty := .boolean) C.1 C.2.1 (C.2.2.2.1.trans hr) (fd_b_n x) (fun t ht hW => ⟨rfl, by rw [ht]; exact hP, by rw [ht]; exact hz, hS.F ht⟩) hS.2.2 hd hlk
theorem fr_lret {x : Int64} {h' : fd_H} {X' : fd_X} (hd : decode M.2.1 pc = .ok (.lreturn, 1)) (hr : M.2.2.2 = some .long) : fd_A g M E R (fd_Q g (some (.long x)) X h cells slots) pc lv [.long x] X h cells slots := by
  intro p e s m args below meth c C H locs ls hP hz hS hl
  have hlk := C.2.2.2.2.1
  exact W.lret C.1 C.2.1 (C.2.2.2.1.trans hr)  (fun t ht hW => ⟨rfl, by rw [ht]; exact hP, by rw [ht]; exact hz, hS.F ht⟩) hS.2.2 hd hlk
theorem fr_vret  {h' : fd_H} {X' : fd_X} (hd : decode M.2.1 pc = .ok (.return_, 1)) (hr : M.2.2.2 = none) : fd_A g M E R (fd_Q g none X h cells slots) pc lv [] X h cells slots := by
  intro p e s m args below meth c C H locs ls hP hz hS hl
  have hlk := C.2.2.2.2.1
  exact W.vret C.1 C.2.1 (C.2.2.2.1.trans hr)  (fun t ht hW => ⟨rfl, by rw [ht]; exact hP, by rw [ht]; exact hz, hS.F ht⟩) hS.2.2 hd hlk
/-- a callee: its words, its parameters' number -/
def fd_Y (M : fd_M) (n : Nat) : Prop := Cond.code M.1 M.2.1 M.2.2.1 M.2.2.2 ∈ fd_gt ∧ Cond.initialized M.1.cls ∈ fd_gt ∧ M.1.cls ≠ "java/lang/invoke/MethodHandle" ∧ M.1.cls ≠ "java/lang/invoke/VarHandle" ∧ (parseMethodDescriptor M.1.desc).map (fun d => d.parameters.length) = some n
def fd_YV (M : fd_M) (n : Nat) : Prop := fd_Y M n ∧ Cond.instanceMethod M.1 ∈ fd_gt ∧ Cond.selects M.1.cls M.1 M.1 ∈ fd_gt
def fd_YS (M : fd_M) (n : Nat) : Prop := fd_Y M n ∧ Cond.static M.1 ∈ fd_gt
def fd_YI (M : fd_M) (n : Nat) : Prop := fd_Y M n ∧ M.1.name = "<init>" ∧ M.2.2.2 = none ∧ Cond.instanceMethod M.1 ∈ fd_gt
theorem fd_blind {g : fd_G} {av : List Value} {X : fd_X} {h : fd_H} : FrameBlind (fd_Pc g av X h) := fun a U gg mk hq => ⟨hq.1, hq.2.1, hq.2.2.1, hq.2.2.2.calling gg mk a⟩
theorem fd_pre {g : fd_G} {av : List Value} {X : fd_X} {h : fd_H} {H : Heap} {s : State} (hK : fd_K g.2.1 g.2.2.1 s) (hP : va_P g.2.1 vwCl (fd_w g.2.2.2 g.2.2.1 X h) H) (hz : H.size = g.2.2.2 + X.1) : ∀ U : State, U.heap = H → s.WarmedH U.vm → fd_Pc g av X h av.toArray U := fun U hU hW => ⟨rfl, by rw [hU]; exact hP, by rw [hU]; exact hz, hK.warm hW⟩
theorem fd_codeIn (M : fd_M) (hc : Cond.code M.1 M.2.1 M.2.2.1 M.2.2.2 ∈ fd_gt) : GoodIn fd_gt (.code M.1 M.2.1 M.2.2.1 M.2.2.2 :: fd_gt) := fd_GoodIn (fun w hw => (List.mem_cons.mp hw).elim (fun q => by rw [q]; exact hc) id)
/-- behind a call -/
theorem fd_back {p : Program} {e : Env} {s : State} {m : MethodId} {args : Array Value} {below : List Frame} {meth : Method} {c : Code} {H : Heap} {locs : List Loc} {Q2 : State → Prop} {ls : Array Slot} {st0 rest : List Value} {a : Array Value} {mc ms : Nat} {r : Option Value} {X' : fd_X} {h' : fd_H}
    (hr : va_Run p g.1 e R s m args below meth c H locs cells slots mc ms (F0 m pc ls st0) rest (fd_Qc g r X' h' a) (fun q => g.2.2.2 ≤ q)) (hS : va_S (fun q => g.2.2.2 ≤ q) s.heap H locs)
    (kk : ∀ (H1 : Heap) (locs1 : List Loc), va_P g.2.1 vwCl (fd_w g.2.2.2 g.2.2.1 X' h') H1 → H1.size = g.2.2.2 + X'.1 → va_S (fun q => g.2.2.2 ≤ q) s.heap H1 locs1 → W p g.1 e R s m args below meth c H1 locs1 (cells + mc) (slots + ms) Q2 (F0 m (pc + 3) ls (r.toList ++ rest))) : W p g.1 e R s m args below meth c H locs cells slots Q2 (F0 m pc ls st0) := by
  intro T hT X0
  obtain ⟨v, st₀, t, T', L, h0, X1, hL, e1, e2, ⟨hv, hPt, hzt, hF⟩, hgo⟩ := hr T hT X0
  cases hv
  obtain ⟨hF1, hF2⟩ := hF
  rw [h0] at hF1 hF2
  obtain ⟨t2, a1, b1⟩ := kk T'.heap (locs ++ L) (by rw [e1]; exact hPt) (by rw [e1]; exact hzt)
    ⟨Nat.le_trans hS.1 (by rw [e1]; exact hF1), fun q h1 h2 => by rw [e1, hF2 q (Nat.lt_of_lt_of_le h1 hS.1) h2]; exact hS.2.1 q h1 h2, fun q hq => (List.mem_append.mp hq).elim (hS.2.2 q) (hL q)⟩ T' rfl X1
  exact ⟨t2, hgo t2 a1, b1⟩
theorem fr_callS {Mc : fd_M} {d n idx mc ms : Nat} {av rest : List Value} {r : Option Value} {X' : fd_X} {h' : fd_H} (hd : decode M.2.1 pc = .ok (.invokestatic idx, 3)) (hy : fd_YS Mc n) (hw : Cond.methodLink M.1.cls idx Mc.1 ∈ fd_gt) (hn : av.length = n) (hst : st = av.reverse ++ rest) (hc8 : (rest.map fun v => v.category).sum ≤ 8) (hR : d + 1 ≤ R.frames ∧ 19 + Mc.2.2.1 + 40 * d ≤ R.locals ∧ cells + mc ≤ R.cells ∧ slots + ms ≤ R.slots) (hS0 : fd_S g Mc d av X h r X' h' mc ms) (kk : fd_A g M E R Q (pc + 3) lv (r.toList ++ rest) X' h' (cells + mc) (slots + ms)) : fd_A g M E R Q pc lv st X h cells slots := by
  intro p e s m args below meth c C H locs ls hP hz hS hl
  obtain ⟨⟨y1, y2, y3, y4, y5⟩, y6⟩ := hy
  have hts := C.2.2.2.2.2.2.1
  refine fd_back (va_runS (cc := M.2.1) (nL := M.2.2.1) (Ts := fd_gt) (own := M.1.cls) (As := av) (rest := rest) ⟨C.1, C.2.1, C.2.2.1, C.2.2.2.2.2.1, hts⟩ hS0 ⟨callB_of n hts (fd_codeIn Mc y1) rfl rfl rfl (hts _ y2) (hts _ hw) ⟨y3, y4, y5⟩ ⟨hR.1, by show 8 + (Mc.2.2.1 + 11) + 40 * d ≤ R.locals; have := hR.2.1; omega⟩, hts _ y6⟩ ⟨fd_blind, fd_pre C.2.2.2.2.2.2.2.1 hP hz⟩ rfl hn hl.1 hst (lv_room hc8) hd ⟨hR.2.2.1, hR.2.2.2⟩) hS (fun H1 locs1 hP1 hz1 hS1 => kk p e s m args below meth c C H1 locs1 ls hP1 hz1 hS1 hl)
theorem fr_callSN {Mc : fd_M} {d n idx mc ms : Nat} {av rest : List Value} {r : Option Value} {X' : fd_X} {h' : fd_H} (hd : decode M.2.1 pc = .ok (.invokestatic idx, 3)) (hy : fd_YS Mc n) (hw : (M.1.cls, idx, Mc.1, "FrostDebts") ∈ fd_nest) (hn : av.length = n) (hst : st = av.reverse ++ rest) (hc8 : (rest.map fun v => v.category).sum ≤ 8) (hR : d + 1 ≤ R.frames ∧ 19 + Mc.2.2.1 + 40 * d ≤ R.locals ∧ cells + mc ≤ R.cells ∧ slots + ms ≤ R.slots) (hS0 : fd_S g Mc d av X h r X' h' mc ms) (kk : fd_A g M E R Q (pc + 3) lv (r.toList ++ rest) X' h' (cells + mc) (slots + ms)) : fd_A g M E R Q pc lv st X h cells slots := by
  intro p e s m args below meth c C H locs ls hP hz hS hl
  obtain ⟨⟨y1, y2, y3, y4, y5⟩, y6⟩ := hy
  have hts := C.2.2.2.2.2.2.1
  refine fd_back (va_runSN (cc := M.2.1) (nL := M.2.2.1) (Ts := fd_gt) (own := M.1.cls) (As := av) (rest := rest) ⟨C.1, C.2.1, C.2.2.1, C.2.2.2.2.2.1, hts⟩ hS0 ⟨va_cnB n hts (fd_codeIn Mc y1) rfl rfl rfl (C.2.2.2.2.2.2.2.1.2.1 _ hw) (hts _ y2) ⟨y3, y4, y5⟩ ⟨hR.1, by show 8 + (Mc.2.2.1 + 11) + 40 * d ≤ R.locals; have := hR.2.1; omega⟩, hts _ y6, trivial⟩ ⟨fd_blind, fd_pre C.2.2.2.2.2.2.2.1 hP hz⟩ rfl hn hl.1 hst (lv_room hc8) hd ⟨hR.2.2.1, hR.2.2.2⟩) hS (fun H1 locs1 hP1 hz1 hS1 => kk p e s m args below meth c C H1 locs1 ls hP1 hz1 hS1 hl)
theorem fr_callV {Mc : fd_M} {d n idx mc ms : Nat} {av rest : List Value} {r : Option Value} {X' : fd_X} {h' : fd_H} {k ci : Nat} {fs : List fd_F} (hd : decode M.2.1 pc = .ok (.invokevirtual idx, 3)) (hy : fd_YV Mc n) (hw : Cond.methodLink M.1.cls idx Mc.1 ∈ fd_gt) (hk : k < X.1) (hs : X.2 k = .inr (ci, fs)) (hcl : (vwCl[ci]?).map (fun q => q.1) = some Mc.1.cls) (hn : av.length = n) (hst : st = av.reverse ++ .ref (g.2.2.2 + k) :: rest) (hc8 : (rest.map fun v => v.category).sum ≤ 8) (hR : d + 1 ≤ R.frames ∧ 19 + Mc.2.2.1 + 40 * d ≤ R.locals ∧ cells + mc ≤ R.cells ∧ slots + ms ≤ R.slots) (hS0 : fd_S g Mc d (.ref (g.2.2.2 + k) :: av) X h r X' h' mc ms) (kk : fd_A g M E R Q (pc + 3) lv (r.toList ++ rest) X' h' (cells + mc) (slots + ms)) : fd_A g M E R Q pc lv st X h cells slots := by
  intro p e s m args below meth c C H locs ls hP hz hS hl
  obtain ⟨⟨y1, y2, y3, y4, y5⟩, y6, y7⟩ := hy
  have hts := C.2.2.2.2.2.2.1
  have he := fd_w_get (z := g.2.2.2) (cA := g.2.2.1) (h := h) hk
  rw [hs] at he
  obtain ⟨q9, hq9, hq8⟩ := Option.map_eq_some_iff.mp hcl
  have hrc := va_recv C.2.2.2.2.2.2.2.1.1 hP hq9 he
  rw [hq8] at hrc
  refine fd_back (va_runV (cc := M.2.1) (nL := M.2.2.1) (Ts := fd_gt) (own := M.1.cls) (C := Mc.1.cls) (As := av) (rest := rest) (b := g.2.2.2 + k) ⟨C.1, C.2.1, C.2.2.1, C.2.2.2.2.2.1, hts⟩ hS0 ⟨callB_of n hts (fd_codeIn Mc y1) rfl rfl rfl (hts _ y2) (hts _ hw) ⟨y3, y4, y5⟩ ⟨hR.1, by show 8 + (Mc.2.2.1 + 11) + 40 * d ≤ R.locals; have := hR.2.1; omega⟩, hts _ y6, hts _ y7⟩ ⟨fd_blind, hrc, fd_pre C.2.2.2.2.2.2.2.1 hP hz⟩ rfl hn hl.1 hst (lv_room hc8) hd ⟨hR.2.2.1, hR.2.2.2⟩) hS (fun H1 locs1 hP1 hz1 hS1 => kk p e s m args below meth c C H1 locs1 ls hP1 hz1 hS1 hl)
theorem fr_callI {Mc : fd_M} {d n idx mc ms : Nat} {av rest : List Value} {r : Option Value} {X' : fd_X} {h' : fd_H} {k : Nat} (hd : decode M.2.1 pc = .ok (.invokespecial idx, 3)) (hy : fd_YI Mc n) (hw : Cond.methodLink M.1.cls idx Mc.1 ∈ fd_gt) (hn : av.length = n) (hst : st = av.reverse ++ .ref (g.2.2.2 + k) :: rest) (hc8 : (rest.map fun v => v.category).sum ≤ 8) (hR : d + 1 ≤ R.frames ∧ 19 + Mc.2.2.1 + 40 * d ≤ R.locals ∧ cells + mc ≤ R.cells ∧ slots + ms ≤ R.slots) (hS0 : fd_S g Mc d (.ref (g.2.2.2 + k) :: av) X h r X' h' mc ms) (kk : fd_A g M E R Q (pc + 3) lv (r.toList ++ rest) X' h' (cells + mc) (slots + ms)) : fd_A g M E R Q pc lv st X h cells slots := by
  intro p e s m args below meth c C H locs ls hP hz hS hl
  obtain ⟨⟨y1, y2, y3, y4, y5⟩, y6, y7, y8⟩ := hy
  have hts := C.2.2.2.2.2.2.1
  refine fd_back (va_runI (cc := M.2.1) (nL := M.2.2.1) (Ts := fd_gt) (own := M.1.cls) (As := av) (rest := rest) (b := g.2.2.2 + k) ⟨C.1, C.2.1, C.2.2.1, C.2.2.2.2.2.1, hts⟩ hS0 ⟨callB_of n hts (fd_codeIn Mc y1) (by rw [y7]) rfl rfl (hts _ y2) (hts _ hw) ⟨y3, y4, y5⟩ ⟨hR.1, by show 8 + (Mc.2.2.1 + 11) + 40 * d ≤ R.locals; have := hR.2.1; omega⟩, y6, hts _ y8⟩ ⟨fd_blind, fd_pre C.2.2.2.2.2.2.2.1 hP hz⟩ rfl hn hl.1 hst (lv_room hc8) hd ⟨hR.2.2.1, hR.2.2.2⟩) hS (fun H1 locs1 hP1 hz1 hS1 => kk p e s m args below meth c C H1 locs1 ls hP1 hz1 hS1 hl)
theorem fr_callIN {Mc : fd_M} {d n idx mc ms : Nat} {av rest : List Value} {r : Option Value} {X' : fd_X} {h' : fd_H} {k : Nat} (hd : decode M.2.1 pc = .ok (.invokespecial idx, 3)) (hy : fd_YI Mc n) (hw : (M.1.cls, idx, Mc.1, "FrostDebts") ∈ fd_nest) (hn : av.length = n) (hst : st = av.reverse ++ .ref (g.2.2.2 + k) :: rest) (hc8 : (rest.map fun v => v.category).sum ≤ 8) (hR : d + 1 ≤ R.frames ∧ 19 + Mc.2.2.1 + 40 * d ≤ R.locals ∧ cells + mc ≤ R.cells ∧ slots + ms ≤ R.slots) (hS0 : fd_S g Mc d (.ref (g.2.2.2 + k) :: av) X h r X' h' mc ms) (kk : fd_A g M E R Q (pc + 3) lv (r.toList ++ rest) X' h' (cells + mc) (slots + ms)) : fd_A g M E R Q pc lv st X h cells slots := by
  intro p e s m args below meth c C H locs ls hP hz hS hl
  obtain ⟨⟨y1, y2, y3, y4, y5⟩, y6, y7, y8⟩ := hy
  have hts := C.2.2.2.2.2.2.1
  refine fd_back (va_runIN (cc := M.2.1) (nL := M.2.2.1) (Ts := fd_gt) (own := M.1.cls) (As := av) (rest := rest) (b := g.2.2.2 + k) ⟨C.1, C.2.1, C.2.2.1, C.2.2.2.2.2.1, hts⟩ hS0 ⟨va_cnB n hts (fd_codeIn Mc y1) (by rw [y7]) rfl rfl (C.2.2.2.2.2.2.2.1.2.1 _ hw) (hts _ y2) ⟨y3, y4, y5⟩ ⟨hR.1, by show 8 + (Mc.2.2.1 + 11) + 40 * d ≤ R.locals; have := hR.2.1; omega⟩, y6, hts _ y8⟩ ⟨fd_blind, fd_pre C.2.2.2.2.2.2.2.1 hP hz⟩ rfl hn hl.1 hst (lv_room hc8) hd ⟨hR.2.2.1, hR.2.2.2⟩) hS (fun H1 locs1 hP1 hz1 hS1 => kk p e s m args below meth c C H1 locs1 ls hP1 hz1 hS1 hl)
end fd_rows2
