/-! Making: worlds as they stand, for constructors and for the law -/
theorem ra_one {s : State} {c1 c2 : ClassId} {ty : FieldType} (h1 : va_RA s c1 ty) (h2 : va_RA s c2 ty) : c1 = c2 := by
  unfold va_RA at h1 h2
  cases ty with
  | object C =>
    obtain ⟨_, _, _, _, _, e1⟩ := h1
    obtain ⟨_, _, _, _, _, e2⟩ := h2
    exact Option.some.inj (e1.symm.trans e2)
  | _ => exact Option.some.inj (h1.symm.trans h2)
section RAW
variable {p : Program} {l : Launch} {e : Env} {R : Room} {s : State} {m : MethodId} {args : Array Value} {below : List Frame} {meth : Method} {c : Code} {cc : ByteArray} {ws : List Cond} {own : String} {nL : Nat} {D : va_G} {cA : Nat → ClassId} {A : Nat → Prop} {Q : State → Prop} {w : va_W} {ce sl pc : Nat} {lv : List (Nat × Value)} {st : List Value}
def Rx (p : Program) (s : State) (m : MethodId) (args : Array Value) (c : Code) (cc : ByteArray) (ws : List Cond) (own : String) (nL : Nat) (D : va_G) (cA : Nat → ClassId) (A : Nat → Prop) : Prop := p.tables.exec = Jvm.exec ∧ c.code = cc ∧ c.maxLocals = nL ∧ s.vm.findClass own = some m.cls ∧ (∀ w ∈ ws, w.before args s = true) ∧ va_K D vwCl (tyA cA) s ∧ ∀ q, s.heap.size ≤ q → A q
def Jr (p : Program) (l : Launch) (e : Env) (R : Room) (s : State) (m : MethodId) (args : Array Value) (below : List Frame) (meth : Method) (c : Code) (nL : Nat) (D : va_G) (A : Nat → Prop) (Q : State → Prop) (w : va_W) (ce sl pc : Nat) (lv : List (Nat × Value)) (st : List Value) : Prop := ∀ (H : Heap) (locs : List Loc) (ls : Array Slot), va_P D vwCl w H → va_D A w → va_S A s.heap H locs → lv_has ls nL lv → W p l e R s m args below meth c H locs ce sl Q (F0 m pc ls st)
theorem jr_aload_n (x : Rx p s m args c cc ws own nL D cA A) {k : Fin 4} {i a : Nat} (d : decode cc pc = .ok (.aload_n k, 1)) (hi : (k : Nat) = i) (n : Nat) (hl : lv[n]? = some (i, .ref a)) (h : Jr p l e R s m args below meth c nL D A Q w ce sl (pc + 1) lv (.ref a :: st)) : Jr p l e R s m args below meth c nL D A Q w ce sl pc lv st :=
  fun H locs ls hP hD hS hv => lv_aload_n (x := a) x.1 x.2.1 d hi (lv_at hv n hl) (h H locs ls hP hD hS hv)
theorem jr_aload (x : Rx p s m args c cc ws own nL D cA A) {i a : Nat} (d : decode cc pc = .ok (.aload i, 2)) (n : Nat) (hl : lv[n]? = some (i, .ref a)) (h : Jr p l e R s m args below meth c nL D A Q w ce sl (pc + 2) lv (.ref a :: st)) : Jr p l e R s m args below meth c nL D A Q w ce sl pc lv st :=
  fun H locs ls hP hD hS hv => lv_aload (x := a) x.1 x.2.1 d (lv_at hv n hl) (h H locs ls hP hD hS hv)
theorem jr_iload_n (x : Rx p s m args c cc ws own nL D cA A) {k : Fin 4} {i : Nat} {a : Int32} (d : decode cc pc = .ok (.iload_n k, 1)) (hi : (k : Nat) = i) (n : Nat) (hl : lv[n]? = some (i, .int a)) (h : Jr p l e R s m args below meth c nL D A Q w ce sl (pc + 1) lv (.int a :: st)) : Jr p l e R s m args below meth c nL D A Q w ce sl pc lv st :=
  fun H locs ls hP hD hS hv => lv_iload_n (x := a) x.1 x.2.1 d hi (lv_at hv n hl) (h H locs ls hP hD hS hv)
theorem jr_iconst (x : Rx p s m args c cc ws own nL D cA A) {z : Int} {v : Int32} (d : decode cc pc = .ok (.iconst z, 1)) (hv : Int32.ofInt z = v) (h : Jr p l e R s m args below meth c nL D A Q w ce sl (pc + 1) lv (.int v :: st)) : Jr p l e R s m args below meth c nL D A Q w ce sl pc lv st :=
  fun H locs ls hP hD hS hl => lv_iconst (v := v) x.1 x.2.1 d hv (h H locs ls hP hD hS hl)
theorem jr_bipush (x : Rx p s m args c cc ws own nL D cA A) {z : Int} {v : Int32} (d : decode cc pc = .ok (.bipush z, 2)) (hv : (Int8.ofInt z).toInt32 = v) (h : Jr p l e R s m args below meth c nL D A Q w ce sl (pc + 2) lv (.int v :: st)) : Jr p l e R s m args below meth c nL D A Q w ce sl pc lv st :=
  fun H locs ls hP hD hS hl => lv_bipush (v := v) x.1 x.2.1 d hv (h H locs ls hP hD hS hl)
theorem jr_sipush (x : Rx p s m args c cc ws own nL D cA A) {z : Int} {v : Int32} (d : decode cc pc = .ok (.sipush z, 3)) (hv : (Int16.ofInt z).toInt32 = v) (h : Jr p l e R s m args below meth c nL D A Q w ce sl (pc + 3) lv (.int v :: st)) : Jr p l e R s m args below meth c nL D A Q w ce sl pc lv st :=
  fun H locs ls hP hD hS hl => lv_sipush (v := v) x.1 x.2.1 d hv (h H locs ls hP hD hS hl)
theorem jr_lconst (x : Rx p s m args c cc ws own nL D cA A) {z : Fin 2} {v : Int64} (d : decode cc pc = .ok (.lconst z, 1)) (hv : Int64.ofNat (z : Nat) = v) (h : Jr p l e R s m args below meth c nL D A Q w ce sl (pc + 1) lv (.long v :: st)) : Jr p l e R s m args below meth c nL D A Q w ce sl pc lv st :=
  fun H locs ls hP hD hS hl => lv_lconst (v := v) x.1 x.2.1 d hv (h H locs ls hP hD hS hl)
theorem jr_dup (x : Rx p s m args c cc ws own nL D cA A) {a : Nat} (d : decode cc pc = .ok (.dup, 1)) (h : Jr p l e R s m args below meth c nL D A Q w ce sl (pc + 1) lv (.ref a :: .ref a :: st)) : Jr p l e R s m args below meth c nL D A Q w ce sl pc lv (.ref a :: st) :=
  fun H locs ls hP hD hS hl => lv_dup x.1 x.2.1 d rfl (h H locs ls hP hD hS hl)
theorem jr_obj (x : Rx p s m args c cc ws own nL D cA A) {a idx : Nat} (d : decode cc pc = .ok (.invokespecial idx, 3)) (h1 : Cond.methodLink own idx Lib.objectInit ∈ ws) (h2 : Cond.instanceMethod Lib.objectInit ∈ ws) (h3 : Cond.code Lib.objectInit ⟨#[0xb1]⟩ 1 none ∈ ws) (hf : 1 ≤ R.frames) (hlo : 12 ≤ R.locals) (h : Jr p l e R s m args below meth c nL D A Q w ce sl (pc + 3) lv []) : Jr p l e R s m args below meth c nL D A Q w ce sl pc lv [.ref a] := by
  intro H locs ls hP hD hS hl
  refine W.objInit x.1 x.2.1 x.2.2.2.1 (x.2.2.2.2.1 _ h1) (x.2.2.2.2.1 _ h2) (x.2.2.2.2.1 _ h3) rfl (by rw [x.2.2.1]; exact hl.1) rfl d hf hlo ?_
  exact W.eq (g2 := F0 m (pc + 3) ls []) rfl (h H locs ls hP hD hS hl)
theorem jr_newa (x : Rx p s m args c cc ws own nL D cA A) {atype : ArrayType} {ty : FieldType} {t : Nat} (d : decode cc pc = .ok (.newarray atype, 2)) (hty : newarray.typeOf atype = ty) (hw : Cond.arrayClass ty ∈ ws) (ht : (tyA cA)[t]? = some (cA t, ty)) {n : Int32} {N : Nat} {a0 : vp_A} (ha : ∀ k : ClassId, vp_cell k a0 = arrV k N (fun _ => defaultValue ty)) (hn : ¬ n < 0) (hN : n.toNatClampNeg = N) (hb : N * componentBytes ty ≤ 536870912) (h1 : ce + 1 ≤ R.cells) (h2 : sl + N ≤ R.slots)
    (h : ∀ q, Jr p l e R s m args below meth c nL D A Q (w ++ [(q, .inl (cA t, a0))]) (ce + 1) (sl + N) (pc + 2) lv (.ref q :: st)) : Jr p l e R s m args below meth c nL D A Q w ce sl pc lv (.int n :: st) := by
  intro H locs ls hP hD hS hl
  subst hty
  refine va_newa x.1 x.2.1 (x.2.2.2.2.1 _ hw) rfl x.2.2.2.2.2.1 hP hD hS x.2.2.2.2.2.2 ha hn hN hb h1 h2 d (fun q k H1 hK1 hP1 hD1 hS1 => ?_)
  have e1 : k = cA t := by
    have g1 := (hK1.2 (tyA cA).length (k, newarray.typeOf atype) (by rw [List.getElem?_append_right (Nat.le_refl _), Nat.sub_self]; rfl)).2
    have hlt : t < (tyA cA).length := (List.getElem?_eq_some_iff.mp ht).1
    have g2 := (hK1.2 t (cA t, newarray.typeOf atype) (by rw [List.getElem?_append_left hlt]; exact ht)).2
    exact ra_one g1 g2
  subst e1
  exact h q H1 locs ls hP1 hD1 hS1 hl
theorem jr_newq (x : Rx p s m args c cc ws own nL D cA A) {index : Nat} (d : decode cc pc = .ok (.anewarray index, 3)) (hw : Cond.classLink own index "MailYard$Actor" ∈ ws) (ho : va_AO "MailYard$Actor" s) {n : Int32} {N : Nat} (hn : ¬ n < 0) (hN : n.toNatClampNeg = N) (hb : N * 4 ≤ 536870912) (h1 : ce + 1 ≤ R.cells) (h2 : sl + N ≤ R.slots)
    (h : ∀ q, Jr p l e R s m args below meth c nL D A Q (w ++ [(q, .inl (cA 2, N, .inr (.inr (.inr (.inr (fun _ => none))))))]) (ce + 1) (sl + N) (pc + 3) lv (.ref q :: st)) : Jr p l e R s m args below meth c nL D A Q w ce sl pc lv (.int n :: st) := by
  intro H locs ls hP hD hS hl
  refine va_newq x.1 x.2.1 x.2.2.2.1 (x.2.2.2.2.1 _ hw) ho x.2.2.2.2.2.1 hP hD hS x.2.2.2.2.2.2 hn hN hb h1 h2 d (fun q k H1 hK1 hP1 hD1 hS1 => ?_)
  have e1 : k = cA 2 := by
    have g1 := (hK1.2 (tyA cA).length (k, .object "MailYard$Actor") (by rw [List.getElem?_append_right (Nat.le_refl _), Nat.sub_self]; rfl)).2
    have g2 := (hK1.2 2 (cA 2, .object "MailYard$Actor") (by rw [List.getElem?_append_left (show 2 < 4 by decide)]; rfl)).2
    exact ra_one g1 g2
  subst e1
  exact h q H1 locs ls hP1 hD1 hS1 hl
theorem jr_new (x : Rx p s m args c cc ws own nL D cA A) {C : String} {T : u_T} {N ci index : Nat} (ty : Nat → FieldType) (d : decode cc pc = .ok (.new index, 3)) (hC : vwCl[ci]? = some (C, T, N)) (hin : ∀ w ∈ u_ws C T N, w ∈ ws) (hty : ∀ k, k < N → parseFieldDescriptor (T k).2.2.1 = some (ty k)) (hw1 : Cond.classLink own index C ∈ ws) (hw2 : Cond.instantiable C N ∈ ws) (hw3 : Cond.initialized C ∈ ws) {fs : List Value} (hfs : ∀ j, j < N → defaultValue (ty j) = vp_V fs j) (h1 : ce + 1 ≤ R.cells) (h2 : sl + N ≤ R.slots)
    (h : ∀ q, Jr p l e R s m args below meth c nL D A Q (w ++ [(q, .inr (ci, fs))]) (ce + 1) (sl + N) (pc + 3) lv (.ref q :: st)) : Jr p l e R s m args below meth c nL D A Q w ce sl pc lv st := by
  intro H locs ls hP hD hS hl
  exact va_new x.1 x.2.1 x.2.2.2.2.1 hin ty hty x.2.2.2.1 (x.2.2.2.2.1 _ hw1) (x.2.2.2.2.1 _ hw2) (x.2.2.2.2.1 _ hw3) x.2.2.2.2.2.1 hP hD hS x.2.2.2.2.2.2 hC hfs h1 h2 d (fun q H1 hP1 hD1 hS1 => h q H1 locs ls hP1 hD1 hS1 hl)
theorem jr_put (x : Rx p s m args c cc ws own nL D cA A) {C : String} {T : u_T} {N ci index : Nat} (ty0 : Nat → FieldType) (d : decode cc pc = .ok (.putfield index, 3)) (hC : vwCl[ci]? = some (C, T, N)) (hin : ∀ w ∈ u_ws C T N, w ∈ ws) (hty : ∀ k, k < N → parseFieldDescriptor (T k).2.2.1 = some (ty0 k)) (hnm : ∀ a, a < N → ∀ b, b < N → a ≠ b → (T a).2.1 ≠ (T b).2.1) (k : Nat) (hk : k < N) (hw : Cond.fieldLink own index (T k).1 (T k).2.1 (T k).2.2.1 ∈ ws) (hfin : (T k).2.2.2 = false) {v : Value} (hn : narrow (ty0 k) v = v) (hfit : fits (ty0 k) v = true) (q0 : Nat) {a : Nat} {fs : List Value} (he : w[q0]? = some (a, .inr (ci, fs))) (hl0 : k < fs.length) {w' : va_W} (hw' : w.set q0 (a, .inr (ci, fs.set k v)) = w')
    (h : Jr p l e R s m args below meth c nL D A Q w' ce sl (pc + 3) lv st) : Jr p l e R s m args below meth c nL D A Q w ce sl pc lv (v :: .ref a :: st) := by
  intro H locs ls hP hD hS hl
  subst hw'
  exact va_put (D := D) (ci := ci) (v := v) (ty := ty0 k) (C := C) (T := T) (N := N) x.1 x.2.1 x.2.2.2.2.1 hin ty0 hty hnm x.2.2.2.1 x.2.2.2.2.2.1 hP hD hS q0 he hC k hk (x.2.2.2.2.1 _ hw) (fun _ z => z) hfin (hty k hk) hn hfit hl0 d (fun H1 locs1 hP1 hD1 hS1 => h H1 locs1 ls hP1 hD1 hS1 hl)
theorem jr_putF (x : Rx p s m args c cc ws own nL D cA A) (hini : meth.name = "<init>") {C : String} {T : u_T} {N ci index : Nat} (ty0 : Nat → FieldType) (d : decode cc pc = .ok (.putfield index, 3)) (hC : vwCl[ci]? = some (C, T, N)) (hin : ∀ w ∈ u_ws C T N, w ∈ ws) (hty : ∀ k, k < N → parseFieldDescriptor (T k).2.2.1 = some (ty0 k)) (hnm : ∀ a, a < N → ∀ b, b < N → a ≠ b → (T a).2.1 ≠ (T b).2.1) (k : Nat) (hk : k < N) (hw : Cond.fieldLink own index (T k).1 (T k).2.1 (T k).2.2.1 ∈ ws) (hfin : (T k).2.2.2 = true) (hdecl : (T k).1 = own) {v : Value} (hn : narrow (ty0 k) v = v) (hfit : fits (ty0 k) v = true) (q0 : Nat) {a : Nat} {fs : List Value} (he : w[q0]? = some (a, .inr (ci, fs))) (hl0 : k < fs.length) {w' : va_W} (hw' : w.set q0 (a, .inr (ci, fs.set k v)) = w')
    (h : Jr p l e R s m args below meth c nL D A Q w' ce sl (pc + 3) lv st) : Jr p l e R s m args below meth c nL D A Q w ce sl pc lv (v :: .ref a :: st) := by
  intro H locs ls hP hD hS hl
  subst hw'
  exact va_putF (D := D) (ci := ci) (v := v) (ty := ty0 k) (C := C) (T := T) (N := N) x.1 x.2.1 x.2.2.2.2.1 hin ty0 hty hnm x.2.2.2.1 x.2.2.2.2.2.1 hP hD hS q0 he hC k hk (x.2.2.2.2.1 _ hw) (fun _ z => z) hfin hini hdecl (hty k hk) hn hfit hl0 d (fun H1 locs1 hP1 hD1 hS1 => h H1 locs1 ls hP1 hD1 hS1 hl)
/-- the rest of a world beside what a call has changed -/
theorem w_join {ws1 wc ws2 w1 : va_W} {H H1 : Heap} {locs : List Loc} {H0 : Heap} (hP : va_P D vwCl (ws1 ++ (wc ++ ws2)) H) (hD : va_D A (ws1 ++ (wc ++ ws2))) (hS : va_S A H0 H locs) (hA : ∀ q, H0.size ≤ q → A q) (hk : ∀ q : Nat, q < H.size → ¬ va_A wc H.size q → H1[q]? = H[q]?) (hP1 : va_P D vwCl w1 H1) (hD1 : va_D (va_A wc H.size) w1) : va_P D vwCl (ws1 ++ (w1 ++ ws2)) H1 ∧ va_D A (ws1 ++ (w1 ++ ws2)) ∧ ∀ q, va_A wc H.size q → A q := by
  have i1 : ∀ (k : Nat) (q : Nat × va_E), ws1[k]? = some q → (ws1 ++ (wc ++ ws2))[k]? = some q := fun k q h => by
    rw [List.getElem?_append_left (List.getElem?_eq_some_iff.mp h).1]; exact h
  have ic : ∀ (k : Nat) (q : Nat × va_E), wc[k]? = some q → (ws1 ++ (wc ++ ws2))[ws1.length + k]? = some q := fun k q h => by
    rw [List.getElem?_append_right (Nat.le_add_right _ _), Nat.add_sub_cancel_left, List.getElem?_append_left (List.getElem?_eq_some_iff.mp h).1]; exact h
  have i2 : ∀ (k : Nat) (q : Nat × va_E), ws2[k]? = some q → (ws1 ++ (wc ++ ws2))[ws1.length + (wc.length + k)]? = some q := fun k q h => by
    rw [List.getElem?_append_right (Nat.le_add_right _ _), Nat.add_sub_cancel_left, List.getElem?_append_right (Nat.le_add_right _ _), Nat.add_sub_cancel_left]; exact h
  have hF : ∀ q, va_A wc H.size q → A q := fun q h => by
    rcases h with ⟨k, e, h⟩ | h
    · exact hD.2 _ _ (ic k (q, e) h)
    · exact hA q (Nat.le_trans hS.1 h)
  have n1 : ∀ (k : Nat) (q : Nat × va_E), ws1[k]? = some q → q.1 < H.size ∧ ¬ va_A wc H.size q.1 := fun k q h => by
    have hl := (hP _ _ (i1 k q h)).lt
    refine ⟨hl, fun z => ?_⟩
    rcases z with ⟨j, e, z⟩ | z
    · have := hD.1 _ _ _ _ (i1 k q h) (ic j _ z) rfl
      have := (List.getElem?_eq_some_iff.mp h).1
      omega
    · omega
  have n2 : ∀ (k : Nat) (q : Nat × va_E), ws2[k]? = some q → q.1 < H.size ∧ ¬ va_A wc H.size q.1 := fun k q h => by
    have hl := (hP _ _ (i2 k q h)).lt
    refine ⟨hl, fun z => ?_⟩
    rcases z with ⟨j, e, z⟩ | z
    · have := hD.1 _ _ _ _ (i2 k q h) (ic j _ z) rfl
      have := (List.getElem?_eq_some_iff.mp z).1
      omega
    · omega
  have p1 : va_P D vwCl ws1 H1 := va_P.kept (show va_P D vwCl ws1 H from fun k q h => hP _ _ (i1 k q h)) (fun k q h => hk _ (n1 k q h).1 (n1 k q h).2)
  have p2 : va_P D vwCl ws2 H1 := va_P.kept (show va_P D vwCl ws2 H from fun k q h => hP _ _ (i2 k q h)) (fun k q h => hk _ (n2 k q h).1 (n2 k q h).2)
  have d1 : va_D A ws1 := ⟨fun i j a b h1 h2 h3 => hD.1 _ _ _ _ (i1 i a h1) (i1 j b h2) h3, fun k q h => hD.2 _ _ (i1 k q h)⟩
  have d2 : va_D A ws2 := ⟨fun i j a b h1 h2 h3 => by have := hD.1 _ _ _ _ (i2 i a h1) (i2 j b h2) h3; omega, fun k q h => hD.2 _ _ (i2 k q h)⟩
  have dc : va_D A w1 := ⟨hD1.1, fun k q h => hF _ (hD1.2 k q h)⟩
  refine ⟨p1.app (hP1.app p2), d1.app (dc.app d2 ?_) ?_, hF⟩
  · intro i j a b h1 h2 h3
    exact (n2 j b h2).2 (h3 ▸ hD1.2 i a h1)
  · intro i j a b h1 h2 h3
    by_cases hj : j < w1.length
    · rw [List.getElem?_append_left hj] at h2
      exact (n1 i a h1).2 (h3.symm ▸ hD1.2 j b h2)
    · rw [List.getElem?_append_right (by omega)] at h2
      have := hD.1 _ _ _ _ (i1 i a h1) (i2 _ b h2) h3
      have := (List.getElem?_eq_some_iff.mp h1).1
      omega
/-- what a constructor makes -/
def Makes (y : MethodName) (ws : List Cond) (rm : Room) (mc ms ci : Nat) (fs : List Value) (as : List Value) (Z : State → Prop) (out : (Nat → ClassId) → Nat → va_W → Prop) : Prop :=
  ∀ (l : Launch) (D : va_G) (cA : Nat → ClassId) (a0 sz : Nat), Met l y ws rm (va_Pc (.ref a0 :: as) (fun U => U.heap.size = sz ∧ va_P D vwCl [(a0, .inr (ci, fs))] U.heap ∧ va_K D vwCl (tyA cA) U ∧ va_D (fun _ => True) [(a0, .inr (ci, fs))] ∧ Z U)) (va_Qv (out cA a0) (fun w t => va_P D vwCl w t.heap ∧ va_D (va_A [(a0, .inr (ci, fs))] sz) w) (va_A [(a0, .inr (ci, fs))] sz)) mc ms (va_A [(a0, .inr (ci, fs))] sz)
theorem jr_made {mc ms ci b : Nat} {fs as : List Value} {Z : State → Prop} {out : (Nat → ClassId) → Nat → va_W → Prop} (x : Rx p s m args c cc ws own nL D cA A)
    (run : ∀ (H : Heap) (locs : List Loc) (ls : Array Slot), PreS s H (va_Pc (.ref b :: as) (fun U => U.heap.size = H.size ∧ va_P D vwCl [(b, .inr (ci, fs))] U.heap ∧ va_K D vwCl (tyA cA) U ∧ va_D (fun _ => True) [(b, .inr (ci, fs))] ∧ Z U)) (.ref b :: as) → lv_has ls nL lv → va_Run p l e R s m args below meth c H locs ce sl mc ms (F0 m pc ls (as.reverse ++ .ref b :: st)) st (va_Qv (out cA b) (fun w t => va_P D vwCl w t.heap ∧ va_D (va_A [(b, .inr (ci, fs))] H.size) w) (va_A [(b, .inr (ci, fs))] H.size) (Value.ref b :: as).toArray) (va_A [(b, .inr (ci, fs))] H.size))
    (hZ : ∀ U : State, s.WarmedH U.vm → Z U) (hZ2 : FrameBlind (fun _ U => Z U))
    (h : ∀ w1, out cA b w1 → Jr p l e R s m args below meth c nL D A Q (w ++ w1) (ce + mc) (sl + ms) (pc + 3) lv st) : Jr p l e R s m args below meth c nL D A Q (w ++ [(b, .inr (ci, fs))]) ce sl pc lv (as.reverse ++ .ref b :: st) := by
  intro H locs ls hP hD hS hl
  have hPw : va_P D vwCl (w ++ ([(b, .inr (ci, fs))] ++ [])) H := hP
  have hDw : va_D A (w ++ ([(b, .inr (ci, fs))] ++ [])) := hD
  have hg : (w ++ [(b, (.inr (ci, fs) : va_E))])[w.length]? = some (b, .inr (ci, fs)) := by rw [List.getElem?_append_right (Nat.le_refl _), Nat.sub_self]; rfl
  have hPc : va_P D vwCl [(b, .inr (ci, fs))] H := fun k q hq => by
    have hz : k < 1 := (List.getElem?_eq_some_iff.mp hq).1
    rw [show k = 0 by omega] at hq
    cases hq
    exact hP _ _ hg
  have hDc : va_D (fun _ => True) [(b, (.inr (ci, fs) : va_E))] := ⟨fun i j a b h1 h2 _ => by
    have := (List.getElem?_eq_some_iff.mp h1).1
    have := (List.getElem?_eq_some_iff.mp h2).1
    simp only [List.length_cons, List.length_nil] at *
    omega, fun _ _ _ => trivial⟩
  have hFc : ∀ q, va_A [(b, .inr (ci, fs))] H.size q → A q := fun q hq => by
    rcases hq with ⟨k, e, hq⟩ | hq
    · have hz : k < 1 := (List.getElem?_eq_some_iff.mp hq).1
      rw [show k = 0 by omega] at hq
      cases hq
      exact hD.2 _ _ hg
    · exact x.2.2.2.2.2.2 q (Nat.le_trans hS.1 hq)
  refine va_callv (run H locs ls ⟨fun a U g mk q => ?_, fun U hU hW => ?_⟩ hl) hS (fun q _ hq => hFc q hq) hFc (fun w1 t H1 locs1 ht hvm ho hB hz1 hk1 hS1 => ?_)
  · obtain ⟨q0, q1, qP, qK, qD, qZ⟩ := q
    exact ⟨q0, q1, qP, va_K.moved (u := U) (U := U.calling g mk a) (Vm.Alike.refl U.vm) qK, qD, hZ2 a U g mk qZ⟩
  · exact ⟨rfl, by rw [hU], by rw [hU]; exact hPc, va_K.moved hW.alike x.2.2.2.2.2.1, hDc, hZ U hW⟩
  · obtain ⟨hP1, hD1⟩ := hB
    rw [ht] at hP1
    obtain ⟨g1, g2, _⟩ := w_join hPw hDw hS x.2.2.2.2.2.2 hk1 hP1 hD1
    rw [List.append_nil] at g1 g2
    exact h w1 ho H1 locs1 ls g1 g2 hS1 hl
end RAW
section RAW2
variable {p : Program} {l : Launch} {e : Env} {R : Room} {s : State} {m : MethodId} {args : Array Value} {below : List Frame} {meth : Method} {c : Code} {cc : ByteArray} {ws : List Cond} {own : String} {nL : Nat} {D : va_G} {cA : Nat → ClassId} {A : Nat → Prop} {Q : State → Prop} {w : va_W} {ce sl pc : Nat} {lv : List (Nat × Value)} {st : List Value}
theorem jr_makeI {y : MethodName} {ws' : List Cond} {rm : Room} {mc ms ci b index maxL : Nat} {bytes : ByteArray} {fs as : List Value} {Z : State → Prop} {out : (Nat → ClassId) → Nat → va_W → Prop} (x : Rx p s m args c cc ws own nL D cA A) (M : Makes y ws' rm mc ms ci fs as Z out) (d : decode cc pc = .ok (.invokespecial index, 3)) (cw : CallB R s args own index y bytes maxL none ws' rm mc ms as.length ∧ y.name = "<init>" ∧ (Cond.instanceMethod y).before args s = true) (hW : (st.map fun v => v.category).sum ≤ 8) (hf : ce + mc ≤ R.cells ∧ sl + ms ≤ R.slots) (hZ : ∀ U : State, s.WarmedH U.vm → Z U) (hZ2 : FrameBlind (fun _ U => Z U))
    (h : ∀ w1, out cA b w1 → Jr p l e R s m args below meth c nL D A Q (w ++ w1) (ce + mc) (sl + ms) (pc + 3) lv st) : Jr p l e R s m args below meth c nL D A Q (w ++ [(b, .inr (ci, fs))]) ce sl pc lv (as.reverse ++ .ref b :: st) :=
  jr_made x (fun H locs ls hp hl => va_runI (As := as) (rest := st) ⟨x.1, x.2.1, x.2.2.1, x.2.2.2.1, x.2.2.2.2.1⟩ (M l D cA b H.size) cw hp rfl rfl hl.1 rfl (lv_room hW) d hf) hZ hZ2 h
theorem jr_makeN {y : MethodName} {host : String} {ws' : List Cond} {rm : Room} {mc ms ci b index maxL : Nat} {bytes : ByteArray} {fs as : List Value} {Z : State → Prop} {out : (Nat → ClassId) → Nat → va_W → Prop} (x : Rx p s m args c cc ws own nL D cA A) (M : Makes y ws' rm mc ms ci fs as Z out) (d : decode cc pc = .ok (.invokespecial index, 3)) (cw : va_CN R s args own index y host bytes maxL none ws' rm mc ms as.length ∧ y.name = "<init>" ∧ (Cond.instanceMethod y).before args s = true) (hW : (st.map fun v => v.category).sum ≤ 8) (hf : ce + mc ≤ R.cells ∧ sl + ms ≤ R.slots) (hZ : ∀ U : State, s.WarmedH U.vm → Z U) (hZ2 : FrameBlind (fun _ U => Z U))
    (h : ∀ w1, out cA b w1 → Jr p l e R s m args below meth c nL D A Q (w ++ w1) (ce + mc) (sl + ms) (pc + 3) lv st) : Jr p l e R s m args below meth c nL D A Q (w ++ [(b, .inr (ci, fs))]) ce sl pc lv (as.reverse ++ .ref b :: st) :=
  jr_made x (fun H locs ls hp hl => va_runIN (As := as) (rest := st) ⟨x.1, x.2.1, x.2.2.1, x.2.2.2.1, x.2.2.2.2.1⟩ (M l D cA b H.size) cw hp rfl rfl hl.1 rfl (lv_room hW) d hf) hZ hZ2 h
/-- a call by its contract, in any world that holds its cells -/
theorem jr_ran {y : MethodName} {ws' : List Cond} {rm : Room} {av : List mV} {σ : mS} {po : mPo} {cl : mC} {ad : Nat → Nat → Nat} {w2 : va_W} (x : Rx p s m args c cc ws own nL D cA A) (M : Meets cl y ws' rm av σ po) {st0 : List Value}
    (run : ∀ (H : Heap) (locs : List Loc) (ls : Array Slot), va_P D vwCl (wl cA ad σ cl) H → FrameBlind (va_Pc (av.map (cv ad)) (fun U => U.heap.size = H.size ∧ va_P D vwCl (wl cA ad σ cl) U.heap ∧ va_K D vwCl (tyA cA) U ∧ va_D (fun _ => True) (wl cA ad σ cl))) → (∀ U : State, U.heap = H → s.WarmedH U.vm → va_Pc (av.map (cv ad)) (fun U => U.heap.size = H.size ∧ va_P D vwCl (wl cA ad σ cl) U.heap ∧ va_K D vwCl (tyA cA) U ∧ va_D (fun _ => True) (wl cA ad σ cl)) (av.map (cv ad)).toArray U) → lv_has ls nL lv → va_Run p l e R s m args below meth c H locs ce sl 0 0 (F0 m pc ls st0) st (Qg D cA ad cl po (va_A (wl cA ad σ cl) H.size) (av.map (cv ad)).toArray) (va_A (wl cA ad σ cl) H.size))
    (h : ∀ r τ, po r τ → Jr p l e R s m args below meth c nL D A Q (w ++ (wl cA ad τ cl ++ w2)) ce sl (pc + 3) lv ((r.map (cv ad)).toList ++ st)) : Jr p l e R s m args below meth c nL D A Q (w ++ (wl cA ad σ cl ++ w2)) ce sl pc lv st0 := by
  intro H locs ls hP hD hS hl
  have ic : ∀ (k : Nat) (q : Nat × va_E), (wl cA ad σ cl)[k]? = some q → (w ++ (wl cA ad σ cl ++ w2))[w.length + k]? = some q := fun k q h => by
    rw [List.getElem?_append_right (Nat.le_add_right _ _), Nat.add_sub_cancel_left, List.getElem?_append_left (List.getElem?_eq_some_iff.mp h).1]; exact h
  have hPc : va_P D vwCl (wl cA ad σ cl) H := fun k q hq => hP _ _ (ic k q hq)
  have hDc : va_D (fun _ => True) (wl cA ad σ cl) := ⟨fun i j a b h1 h2 h3 => by have := hD.1 _ _ _ _ (ic i a h1) (ic j b h2) h3; omega, fun _ _ _ => trivial⟩
  have hr := run H locs ls hPc (fun a U g mk q => by
    obtain ⟨q0, q1, qP, qK, qD⟩ := q
    exact ⟨q0, q1, qP, va_K.moved (u := U) (U := U.calling g mk a) (Vm.Alike.refl U.vm) qK, qD⟩) (fun U hU hW => ⟨rfl, by rw [hU], by rw [hU]; exact hPc, va_K.moved hW.alike x.2.2.2.2.2.1, hDc⟩) hl
  have hFc : ∀ q, va_A (wl cA ad σ cl) H.size q → A q := fun q hq => by
    rcases hq with ⟨k, e, hq⟩ | hq
    · exact hD.2 _ _ (ic k _ hq)
    · exact x.2.2.2.2.2.2 q (Nat.le_trans hS.1 hq)
  intro T hT X
  obtain ⟨v, st₀, t, T', L, h0, X', hL, e1, e2, ⟨⟨r, u, hv, hp, hb⟩, hz, hk⟩, sx⟩ := hr T hT X
  have hv := Outcome.returned.inj hv
  subst hv
  rw [h0] at hz hk
  have hk2 : ∀ q : Nat, q < H.size → ¬ va_A (wl cA ad σ cl) H.size q → T'.heap[q]? = H[q]? := fun q h1 h2 => by rw [e1]; exact hk q h1 h2
  have hD1 : va_D (va_A (wl cA ad σ cl) H.size) (wl cA ad u cl) := wl_D u (hDc.self (sz := H.size))
  obtain ⟨g1, g2, _⟩ := w_join (ws1 := w) (wc := wl cA ad σ cl) (ws2 := w2) (w1 := wl cA ad u cl) hP hD hS x.2.2.2.2.2.2 hk2 (by rw [e1]; exact hb) hD1
  obtain ⟨t2, a1, b1⟩ := h r u hp T'.heap (locs ++ L) ls g1 g2
    ⟨Nat.le_trans hS.1 (by rw [e1]; exact hz), fun q h1 h2 => by rw [e1, hk q (Nat.lt_of_lt_of_le h1 hS.1) (fun z => h2 (hFc q z))]; exact hS.2.1 q h1 h2, fun q hq => by
      rcases List.mem_append.mp hq with h | h
      · exact hS.2.2 q h
      · exact hFc _ (hL q h)⟩ hl T' rfl X'
  exact ⟨t2, sx t2 a1, b1⟩
theorem jr_callS {y : MethodName} {ws' : List Cond} {rm : Room} {av : List mV} {σ : mS} {po : mPo} {cl : mC} {ad : Nat → Nat → Nat} {w2 : va_W} {index maxL : Nat} {bytes : ByteArray} {rt : Option FieldType} (x : Rx p s m args c cc ws own nL D cA A) (M : Meets cl y ws' rm av σ po) (d : decode cc pc = .ok (.invokestatic index, 3)) (cw : CallB R s args own index y bytes maxL rt ws' rm 0 0 av.length ∧ (Cond.static y).before args s = true) (hW : (st.map fun v => v.category).sum ≤ 8) (hce : ce ≤ R.cells ∧ sl ≤ R.slots)
    (h : ∀ r τ, po r τ → Jr p l e R s m args below meth c nL D A Q (w ++ (wl cA ad τ cl ++ w2)) ce sl (pc + 3) lv ((r.map (cv ad)).toList ++ st)) : Jr p l e R s m args below meth c nL D A Q (w ++ (wl cA ad σ cl ++ w2)) ce sl pc lv ((av.map (cv ad)).reverse ++ st) :=
  jr_ran x M (fun H locs ls hPc hb hp hl => va_runS (As := av.map (cv ad)) (rest := st) ⟨x.1, x.2.1, x.2.2.1, x.2.2.2.1, x.2.2.2.2.1⟩ (M l D cA ad H.size) cw ⟨hb, hp⟩ rfl (by rw [List.length_map]) hl.1 rfl (lv_room hW) d hce) h
theorem jr_callV {y : MethodName} {ws' : List Cond} {rm : Room} {k0 i0 ci : Nat} {av : List mV} {σ : mS} {po : mPo} {cl : mC} {ad : Nat → Nat → Nat} {w2 : va_W} {index maxL N : Nat} {bytes : ByteArray} {rt : Option FieldType} {C : String} {T : u_T} (x : Rx p s m args c cc ws own nL D cA A) (M : Meets cl y ws' rm (mR k0 i0 :: av) σ po) (d : decode cc pc = .ok (.invokevirtual index, 3)) (hC : vwCl[ci]? = some (C, T, N)) (hs : sh k0 = .inl ci) (hm : (k0, i0) ∈ cl) (cw : CallW R s args own C index y bytes maxL rt ws' rm 0 0 av.length) (hW : (st.map fun v => v.category).sum ≤ 8) (hce : ce ≤ R.cells ∧ sl ≤ R.slots)
    (h : ∀ r τ, po r τ → Jr p l e R s m args below meth c nL D A Q (w ++ (wl cA ad τ cl ++ w2)) ce sl (pc + 3) lv ((r.map (cv ad)).toList ++ st)) : Jr p l e R s m args below meth c nL D A Q (w ++ (wl cA ad σ cl ++ w2)) ce sl pc lv ((av.map (cv ad)).reverse ++ .ref (ad k0 i0) :: st) := by
  obtain ⟨q0, hq0⟩ := List.getElem?_of_mem hm
  have hq0 : cl[q0]? = some (k0, i0) := hq0
  exact jr_ran x M (fun H locs ls hPc hb hp hl => va_runV (As := av.map (cv ad)) (rest := st) (b := ad k0 i0) ⟨x.1, x.2.1, x.2.2.1, x.2.2.2.1, x.2.2.2.2.1⟩ (M l D cA ad H.size) cw ⟨hb, va_recv x.2.2.2.2.2.1 hPc hC (wl_obj hq0 hs), hp⟩ rfl (by rw [List.length_map]) hl.1 rfl (lv_room hW) d hce) h
theorem jr_istore_n (x : Rx p s m args c cc ws own nL D cA A) {k : Fin 4} {i : Nat} {a : Int32} (d : decode cc pc = .ok (.istore_n k, 1)) (hi : (k : Nat) = i) (hn : i < nL) {lv' : List (Nat × Value)} (hl : (i, Value.int a) :: lv.filter (fun q => !(q.1 == i) && !(q.1 + 1 == i && q.2.category == 2)) = lv') (h : Jr p l e R s m args below meth c nL D A Q w ce sl (pc + 1) lv' st) : Jr p l e R s m args below meth c nL D A Q w ce sl pc lv (.int a :: st) :=
  fun H locs ls hP hD hS hv => lv_istore_n (x := a) x.1 x.2.1 d hi hv hn hl (fun ls' hl' => h H locs ls' hP hD hS hl')
theorem jr_iinc (x : Rx p s m args c cc ws own nL D cA A) {i : Nat} {z : Int} {a v : Int32} (d : decode cc pc = .ok (.iinc i z, 3)) (n : Nat) (hl : lv[n]? = some (i, .int a)) (hv : a + Int32.ofInt z = v) (hn : i < nL) {lv' : List (Nat × Value)} (hl' : (i, Value.int v) :: lv.filter (fun q => !(q.1 == i) && !(q.1 + 1 == i && q.2.category == 2)) = lv') (h : Jr p l e R s m args below meth c nL D A Q w ce sl (pc + 3) lv' st) : Jr p l e R s m args below meth c nL D A Q w ce sl pc lv st :=
  fun H locs ls hP hD hS hh => lv_iinc (x := a) x.1 x.2.1 d hh hl hv hn hl' (fun ls' hz => h H locs ls' hP hD hS hz)
theorem jr_icmp_ge (x : Rx p s m args c cc ws own nL D cA A) {a b : Int32} {off : Int} {tgt : Nat} (d : decode cc pc = .ok (.if_icmp .ge off, 3)) (ht : (pc : Int) + off = (tgt : Int)) (kt : b ≤ a → Jr p l e R s m args below meth c nL D A Q w ce sl tgt lv st) (kf : ¬ b ≤ a → Jr p l e R s m args below meth c nL D A Q w ce sl (pc + 3) lv st) : Jr p l e R s m args below meth c nL D A Q w ce sl pc lv (.int b :: .int a :: st) :=
  fun H locs ls hP hD hS hl => lv_icmp_ge x.1 x.2.1 d ht (fun z => kt z H locs ls hP hD hS hl) (fun z => kf z H locs ls hP hD hS hl)
theorem jr_goto (x : Rx p s m args c cc ws own nL D cA A) {off : Int} {tgt : Nat} (d : decode cc pc = .ok (.goto off, 3)) (ht : (pc : Int) + off = (tgt : Int)) (h : Jr p l e R s m args below meth c nL D A Q w ce sl tgt lv st) : Jr p l e R s m args below meth c nL D A Q w ce sl pc lv st :=
  fun H locs ls hP hD hS hl => lv_goto x.1 x.2.1 d ht (h H locs ls hP hD hS hl)
theorem jr_getf (x : Rx p s m args c cc ws own nL D cA A) {C : String} {T : u_T} {N ci index : Nat} (d : decode cc pc = .ok (.getfield index, 3)) (hC : vwCl[ci]? = some (C, T, N)) (hin : ∀ w ∈ u_ws C T N, w ∈ ws) (k : Nat) (hk : k < N) (hw : Cond.fieldLink own index (T k).1 (T k).2.1 (T k).2.2.1 ∈ ws) (q0 : Nat) {a : Nat} {fs : List Value} {v : Value} (he : w[q0]? = some (a, .inr (ci, fs))) (hv : fs[k]? = some v) (h : Jr p l e R s m args below meth c nL D A Q w ce sl (pc + 3) lv (v :: st)) : Jr p l e R s m args below meth c nL D A Q w ce sl pc lv (.ref a :: st) :=
  fun H locs ls hP hD hS hl => va_get (D := D) (ci := ci) (v := v) (C := C) (T := T) (N := N) x.1 x.2.1 x.2.2.2.2.1 hin x.2.2.2.1 x.2.2.2.2.2.1 hP q0 he hC k hk (x.2.2.2.2.1 _ hw) (fun _ z => z) hv d (h H locs ls hP hD hS hl)
/-- a constructor, by a walk from its first instruction -/
theorem Makes.of {y : MethodName} {ws' : List Cond} {rm : Room} {mc ms ci : Nat} {fs as : List Value} {Z : State → Prop} {out : (Nat → ClassId) → Nat → va_W → Prop} (hw : ws = Cond.code y cc nL none :: ws') (hy : plainName y.cls = true) (hown : y.cls = own) (hyn : y.name = "<init>") (hn : ∀ a0 : Nat, (lg_sl (.ref a0 :: as)).length ≤ nL)
    (run : ∀ (p : Program) (l : Launch) (e : Env) (s : State) (m : MethodId) (args : Array Value) (below : List Frame) (meth : Method) (c : Code) (D : va_G) (cA : Nat → ClassId) (A : Nat → Prop) (a0 : Nat) (Q : State → Prop), Rx p s m args c cc ws own nL D cA A → meth.name = "<init>" → Z s →
      (∀ w pc lv, decode cc pc = .ok (.return_, 1) → out cA a0 w → Jr p l e rm s m args below meth c nL D A Q w mc ms pc lv []) → Jr p l e rm s m args below meth c nL D A Q [(a0, .inr (ci, fs))] 0 0 0 (lv_args 0 (.ref a0 :: as)) []) : Makes y ws rm mc ms ci fs as Z out := by
  intro l D cA a0 sz
  refine Met.ofW (cc := cc) (maxL := nL) (ret := none) hy hw ?_
  intro p e s m args below meth c s₁ B hml hv
  obtain ⟨rfl, hsz, hP, hK, hD0, hZ⟩ := hv
  have hx := B.exec
  have hb := B.bytes
  have hr := B.returns
  have hts := atoms_spec (ws := ws) B.pre
  have hfc : s.vm.findClass own = some m.cls := by rw [← hown]; exact findClass_of_methodNamed B.named
  have hlocks := B.notSynchronized
  have hin : meth.name = "<init>" := ((name_of_methodNamed B.named B.method).1).trans hyn
  subst hsz
  have hD := hD0.self (sz := s.heap.size)
  generalize hAe : va_A [(a0, .inr (ci, fs))] s.heap.size = A at hD ⊢
  have hA : ∀ q : Nat, s.heap.size ≤ q → A q := fun q h => by rw [← hAe]; exact Or.inr h
  have hl := lv_entry (.ref a0 :: as) (n := nL) (hn a0)
  rw [lg_entry_eq]
  generalize (lg_sl (.ref a0 :: as) ++ List.replicate (nL - (lg_sl (.ref a0 :: as)).length) Slot.unset).toArray = ls at hl ⊢
  have hc : Rx p s m (Value.ref a0 :: as).toArray c cc ws own nL D cA A := ⟨hx, hb, hml, hfc, hts, hK, hA⟩
  exact run p l e s m _ below meth c D cA A a0 _ hc hin hZ (fun w pc lv hd ho H locs ls hP hD hS hl => W.vret hx hb hr (fun t ht hW => ⟨⟨w, rfl, ho, by rw [ht]; exact hP, hD⟩, hS.F ht⟩) hS.2.2 hd) s.heap [] ls hP hD va_S.rf hl
theorem jr_widen {ce' sl' : Nat} (h1 : ce ≤ ce') (h2 : sl ≤ sl') (h : Jr p l e R s m args below meth c nL D A Q w ce' sl' pc lv st) : Jr p l e R s m args below meth c nL D A Q w ce sl pc lv st :=
  fun H locs ls hP hD hS hl => W.widen h1 h2 (h H locs ls hP hD hS hl)
end RAW2
