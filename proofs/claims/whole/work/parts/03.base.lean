/-! Model values, cells, worlds; a judgement over models that no longer speaks of the machine; one law an instruction. -/
abbrev mV : Type := Int32 ⊕ Int64 ⊕ Option (Nat × Nat)
abbrev mI (x : Int32) : mV := .inl x
abbrev mL (x : Int64) : mV := .inr (.inl x)
abbrev mO (r : Option (Nat × Nat)) : mV := .inr (.inr r)
abbrev mR (k i : Nat) : mV := .inr (.inr (some (k, i)))
abbrev mN : mV := .inr (.inr none)
abbrev mS : Type := (Nat → Nat → Nat → Int32) × (Nat → Nat → Nat → Int64) × (Nat → Nat → Nat → Option (Nat × Nat))
abbrev mLv : Type := List (Nat × mV)
abbrev mC : Type := List (Nat × Nat)
abbrev mPo : Type := Option mV → mS → Prop
abbrev mK : Type := mS → Nat → mLv → List mV → Prop
abbrev mE : Type := mC → mPo → mK → mS → mLv → List mV → Prop
def cad (ad : Nat → Nat → Nat) (r : Option (Nat × Nat)) : Option Nat := match r with
  | none => none
  | some q => some (ad q.1 q.2)
def cv (ad : Nat → Nat → Nat) (v : mV) : Value := match v with
  | .inl x => .int x
  | .inr (.inl x) => .long x
  | .inr (.inr r) => va_rf (cad ad r)
def cat (v : mV) : Nat := match v with
  | .inl _ => 1
  | .inr (.inl _) => 2
  | .inr (.inr _) => 1
theorem cv_cat (ad : Nat → Nat → Nat) (v : mV) : (cv ad v).category = cat v := by
  rcases v with x | x | (_ | x) <;> rfl
def cvL (ad : Nat → Nat → Nat) (lv : mLv) : List (Nat × Value) := lv.map (fun q => (q.1, cv ad q.2))
/-- the fields of an object, by the kinds of its fields -/
def fv (ad : Nat → Nat → Nat) (σ : mS) (k i t p : Nat) : Value := match t with
  | 1 => .long (σ.2.1 k i p)
  | 2 => va_rf (cad ad (wr k i p))
  | _ => .int (σ.1 k i p)
def mfv (σ : mS) (k i t p : Nat) : mV := match t with
  | 1 => mL (σ.2.1 k i p)
  | 2 => mO (wr k i p)
  | _ => mI (σ.1 k i p)
/-- an element of an array -/
def mav (σ : mS) (k i t p : Nat) : mV := match t with
  | 1 => mL (σ.2.1 k i p)
  | 2 => mO (σ.2.2 k i p)
  | _ => mI (σ.1 k i p)
theorem fv_eq (ad : Nat → Nat → Nat) (σ : mS) (k i t p : Nat) : fv ad σ k i t p = cv ad (mfv σ k i t p) := by
  unfold fv mfv
  split <;> rfl
def fl (ad : Nat → Nat → Nat) (σ : mS) (k i : Nat) : List Nat → Nat → List Value
  | [], _ => []
  | t :: r, p => fv ad σ k i t p :: fl ad σ k i r (p + 1)
theorem fl_len (ad : Nat → Nat → Nat) (σ : mS) (k i : Nat) : ∀ (ts : List Nat) (p : Nat), (fl ad σ k i ts p).length = ts.length
  | [], _ => rfl
  | _ :: r, p => by simp [fl, fl_len ad σ k i r (p + 1)]
theorem fl_get (ad : Nat → Nat → Nat) (σ : mS) (k i : Nat) : ∀ (ts : List Nat) (p n t : Nat), ts[n]? = some t → (fl ad σ k i ts p)[n]? = some (fv ad σ k i t (p + n))
  | [], _, _, _, h => by simp at h
  | t0 :: r, p, 0, t, h => by
    simp at h
    subst h
    simp [fl]
  | t0 :: r, p, n + 1, t, h => by
    simp at h
    have := fl_get ad σ k i r (p + 1) n t h
    simp only [fl, List.getElem?_cons_succ, this]
    congr 2
    omega
def u3 {α : Type} (f : Nat → Nat → Nat → α) (k i p : Nat) (v : α) : Nat → Nat → Nat → α := fun a b c => if a = k ∧ c = p ∧ b = i then v else f a b c
theorem u3_s {α : Type} (f : Nat → Nat → Nat → α) (k i p : Nat) (v : α) : u3 f k i p v k i p = v := by simp [u3]
theorem u3_n {α : Type} (f : Nat → Nat → Nat → α) {k i p a b c : Nat} (v : α) (h : ¬ (a = k ∧ b = i ∧ c = p)) : u3 f k i p v a b c = f a b c := by
  unfold u3
  rw [if_neg (fun z => h ⟨z.1, z.2.2, z.2.1⟩)]
theorem u3_r {α : Type} (f : Nat → Nat → Nat → α) {k i p a b : Nat} (v : α) (h : ¬ (a = k ∧ b = i)) : u3 f k i p v a b = f a b := by
  funext c
  exact u3_n f v (fun q => h ⟨q.1, q.2.1⟩)
theorem u3_up {α : Type} (f : Nat → Nat → Nat → α) (k i p : Nat) (v : α) : u3 f k i p v k i = va_up (f k i) p v := by
  funext c
  simp [u3, va_up]
abbrev sI (σ : mS) (k i p : Nat) (v : Int32) : mS := (u3 σ.1 k i p v, σ.2.1, σ.2.2)
abbrev sL (σ : mS) (k i p : Nat) (v : Int64) : mS := (σ.1, u3 σ.2.1 k i p v, σ.2.2)
abbrev sR (σ : mS) (k i p : Nat) (v : Option (Nat × Nat)) : mS := (σ.1, σ.2.1, u3 σ.2.2 k i p v)
abbrev sLf (σ : mS) (k i : Nat) (g : Nat → Int64) : mS := (σ.1, fun a b => if a = k ∧ b = i then g else σ.2.1 a b, σ.2.2)
def act (cA : Nat → ClassId) (ad : Nat → Nat → Nat) (σ : mS) (k i t n : Nat) : va_E := .inl (cA t, n, match t with
  | 1 => .inr (.inl (σ.2.1 k i))
  | 2 => .inr (.inr (.inr (.inr (fun j => cad ad (σ.2.2 k i j)))))
  | _ => .inl (σ.1 k i))
def ct (cA : Nat → ClassId) (ad : Nat → Nat → Nat) (σ : mS) (k i : Nat) : va_E := match sh k with
  | .inl q => .inr (q, fl ad σ k i (fts q) 0)
  | .inr q => act cA ad σ k i q.1 q.2
theorem fl_cong {ad : Nat → Nat → Nat} {σ τ : mS} {k i : Nat} (h1 : σ.1 k i = τ.1 k i) (h2 : σ.2.1 k i = τ.2.1 k i) : ∀ (ts : List Nat) (p : Nat), fl ad σ k i ts p = fl ad τ k i ts p
  | [], _ => rfl
  | t :: r, p => by
    have e : fv ad σ k i t p = fv ad τ k i t p := by
      unfold fv
      rw [h1, h2]
    simp only [fl, e, fl_cong h1 h2 r (p + 1)]
theorem ct_cong {cA : Nat → ClassId} {ad : Nat → Nat → Nat} {σ τ : mS} {k i : Nat} (h1 : σ.1 k i = τ.1 k i) (h2 : σ.2.1 k i = τ.2.1 k i) (h3 : σ.2.2 k i = τ.2.2 k i) : ct cA ad σ k i = ct cA ad τ k i := by
  unfold ct
  split
  · rw [fl_cong h1 h2]
  · unfold act
    rw [h1, h2, h3]
def wl (cA : Nat → ClassId) (ad : Nat → Nat → Nat) (σ : mS) (cl : mC) : va_W := cl.map (fun r => (ad r.1 r.2, ct cA ad σ r.1 r.2))
theorem wl_at {cA : Nat → ClassId} {ad : Nat → Nat → Nat} {σ : mS} {cl : mC} {k i q0 : Nat} (h : cl[q0]? = some (k, i)) : (wl cA ad σ cl)[q0]? = some (ad k i, ct cA ad σ k i) := by
  simp [wl, List.getElem?_map, h]
theorem wl_set {A : Nat → Prop} {cA : Nat → ClassId} {ad : Nat → Nat → Nat} {σ τ : mS} {cl : mC} {k i q0 : Nat} {e : va_E} (hD : va_D A (wl cA ad σ cl)) (h : cl[q0]? = some (k, i)) (he : ct cA ad τ k i = e) (hn : ∀ a b, ¬ (a = k ∧ b = i) → ct cA ad τ a b = ct cA ad σ a b) : (wl cA ad σ cl).set q0 (ad k i, e) = wl cA ad τ cl := by
  apply List.ext_getElem?
  intro n
  by_cases hq : n = q0
  · subst hq
    have hl : n < (wl cA ad σ cl).length := (List.getElem?_eq_some_iff.mp (wl_at h)).1
    rw [List.getElem?_set_self hl, wl_at h, he]
  · rw [List.getElem?_set_ne (Ne.symm hq)]
    cases hn2 : cl[n]? with
    | none => simp [wl, List.getElem?_map, hn2]
    | some r =>
      obtain ⟨a, b⟩ := r
      rw [wl_at hn2, wl_at hn2, hn a b ?_]
      rintro ⟨rfl, rfl⟩
      exact hq (hD.1 n q0 _ _ (wl_at hn2) (wl_at h) rfl)
theorem wl_D {A : Nat → Prop} {cA : Nat → ClassId} {ad : Nat → Nat → Nat} {σ : mS} (τ : mS) {cl : mC} (h : va_D A (wl cA ad σ cl)) : va_D A (wl cA ad τ cl) := by
  have key : ∀ (n : Nat) (q : Nat × va_E), (wl cA ad τ cl)[n]? = some q → ∃ q0 : Nat × va_E, (wl cA ad σ cl)[n]? = some q0 ∧ q0.1 = q.1 := by
    intro n q hq
    cases hn : cl[n]? with
    | none => simp [wl, List.getElem?_map, hn] at hq
    | some r =>
      obtain ⟨a, b⟩ := r
      rw [wl_at hn] at hq
      cases hq
      exact ⟨_, wl_at hn, rfl⟩
  refine ⟨fun i j x y hi hj hxy => ?_, fun k q hk => ?_⟩
  · obtain ⟨x0, a1, a2⟩ := key i x hi
    obtain ⟨y0, b1, b2⟩ := key j y hj
    exact h.1 i j x0 y0 a1 b1 (a2.trans (hxy.trans b2.symm))
  · obtain ⟨q0, a1, a2⟩ := key k q hk
    rw [← a2]
    exact h.2 k q0 a1
theorem wl_inj {A : Nat → Prop} {cA : Nat → ClassId} {ad : Nat → Nat → Nat} {σ : mS} {cl : mC} (hD : va_D A (wl cA ad σ cl)) {x y : Nat × Nat} (hx : x ∈ cl) (hy : y ∈ cl) (h : ad x.1 x.2 = ad y.1 y.2) : x = y := by
  obtain ⟨i, hi⟩ := List.getElem?_of_mem hx
  obtain ⟨j, hj⟩ := List.getElem?_of_mem hy
  have e := hD.1 i j _ _ (wl_at (k := x.1) (i := x.2) hi) (wl_at (k := y.1) (i := y.2) hj) h
  subst e
  rw [hi] at hj
  exact Option.some.inj hj
/-- a reference that is null or a cell of the world -/
def vr (cl : mC) (x : Option (Nat × Nat)) : Prop := ∀ q, x = some q → q ∈ cl
theorem cad_inj {A : Nat → Prop} {cA : Nat → ClassId} {ad : Nat → Nat → Nat} {σ : mS} {cl : mC} (hD : va_D A (wl cA ad σ cl)) {x y : Option (Nat × Nat)} (hx : vr cl x) (hy : vr cl y) : cad ad x = cad ad y ↔ x = y := by
  constructor
  · intro h
    cases x with
    | none => cases y with
      | none => rfl
      | some y => simp [cad] at h
    | some x => cases y with
      | none => simp [cad] at h
      | some y =>
        simp only [cad, Option.some.injEq] at h
        rw [wl_inj hD (hx x rfl) (hy y rfl) h]
  · intro h
    rw [h]
abbrev tyA (cA : Nat → ClassId) : List (ClassId × FieldType) := [(cA 0, .int), (cA 1, .long), (cA 2, .object "MailYard$Actor"), (cA 3, .boolean)]
/-- locals -/
def lget : mLv → Nat → Option mV
  | [], _ => none
  | q :: r, i => cond (Nat.beq q.1 i) (some q.2) (lget r i)
theorem lget_mem : ∀ {lv : mLv} {i : Nat} {v : mV}, lget lv i = some v → (i, v) ∈ lv
  | [], _, _, h => by simp [lget] at h
  | q :: r, i, v, h => by
    unfold lget at h
    cases hb : Nat.beq q.1 i with
    | true =>
      rw [hb] at h
      have e := Nat.eq_of_beq_eq_true hb
      obtain ⟨a, b⟩ := q
      simp only [cond_true, Option.some.injEq] at h e
      subst h e
      exact List.mem_cons_self
    | false =>
      rw [hb] at h
      exact List.mem_cons_of_mem _ (lget_mem h)
theorem lget_has {ad : Nat → Nat → Nat} {ls : Array Slot} {nL : Nat} {lv : mLv} {i : Nat} {v : mV} (hl : lv_has ls nL (cvL ad lv)) (h : lget lv i = some v) : ls[i]? = some (.val (cv ad v)) :=
  hl.2.2 (i, cv ad v) (List.mem_map.mpr ⟨(i, v), lget_mem h, rfl⟩)
def keep1 (i : Nat) (q : Nat × mV) : Bool := !(Nat.beq q.1 i) && !(Nat.beq (q.1 + 1) i && Nat.beq (cat q.2) 2)
def keep2 (i : Nat) (q : Nat × mV) : Bool := !(Nat.beq q.1 i) && (!(Nat.beq q.1 (i + 1)) && !(Nat.beq (q.1 + 1) i && Nat.beq (cat q.2) 2))
/-- a local is set where it stands, or comes last -/
def lsetK (keep : Nat × mV → Bool) (i : Nat) (v : mV) : mLv → mLv
  | [] => [(i, v)]
  | q :: r => cond (Nat.beq q.1 i) ((i, v) :: r.filter keep) (cond (keep q) (q :: lsetK keep i v r) (lsetK keep i v r))
def lset1 (lv : mLv) (i : Nat) (v : mV) : mLv := lsetK (keep1 i) i v lv
def lset2 (lv : mLv) (i : Nat) (v : mV) : mLv := lsetK (keep2 i) i v lv
theorem lsetK_mem {keep : Nat × mV → Bool} {i : Nat} {v : mV} : ∀ {lv : mLv} {q : Nat × mV}, q ∈ lsetK keep i v lv → q = (i, v) ∨ (q ∈ lv ∧ keep q = true)
  | [], q, h => Or.inl (by simpa [lsetK] using h)
  | a :: r, q, h => by
    unfold lsetK at h
    cases hb : Nat.beq a.1 i with
    | true =>
      rw [hb] at h
      rcases List.mem_cons.mp h with h | h
      · exact Or.inl h
      · have := List.mem_filter.mp h
        exact Or.inr ⟨List.mem_cons_of_mem _ this.1, this.2⟩
    | false =>
      rw [hb] at h
      cases hk : keep a with
      | true =>
        rw [hk] at h
        rcases List.mem_cons.mp h with h | h
        · subst h
          exact Or.inr ⟨List.mem_cons_self, hk⟩
        · exact (lsetK_mem h).imp id (fun z => ⟨List.mem_cons_of_mem _ z.1, z.2⟩)
      | false =>
        rw [hk] at h
        exact (lsetK_mem h).imp id (fun z => ⟨List.mem_cons_of_mem _ z.1, z.2⟩)
theorem nbeq (a b : Nat) : (a == b) = Nat.beq a b := by
  by_cases h : a = b
  · subst h
    simp
  · have h1 : (a == b) = false := by simpa using h
    have h2 : Nat.beq a b = false := by
      cases hb : Nat.beq a b with
      | false => rfl
      | true => exact absurd (Nat.eq_of_beq_eq_true hb) h
    rw [h1, h2]
theorem cvL_set1 {ad : Nat → Nat → Nat} {lv : mLv} {i : Nat} {v : mV} {ls : Array Slot} {nL : Nat} (h : lv_has ls nL ((i, cv ad v) :: (cvL ad lv).filter (fun q => !(q.1 == i) && !(q.1 + 1 == i && q.2.category == 2)))) : lv_has ls nL (cvL ad (lset1 lv i v)) := by
  refine ⟨h.1, h.2.1, fun q hq => h.2.2 q ?_⟩
  obtain ⟨a, ha, rfl⟩ := List.mem_map.mp hq
  rcases lsetK_mem ha with rfl | ⟨h1, h2⟩
  · exact List.mem_cons_self
  · refine List.mem_cons_of_mem _ (List.mem_filter.mpr ⟨List.mem_map.mpr ⟨a, h1, rfl⟩, ?_⟩)
    simp only [cv_cat, nbeq]
    exact h2
theorem cvL_set2 {ad : Nat → Nat → Nat} {lv : mLv} {i : Nat} {v : mV} {ls : Array Slot} {nL : Nat} (h : lv_has ls nL ((i, cv ad v) :: (cvL ad lv).filter (fun q => !(q.1 == i) && (!(q.1 == i + 1) && !(q.1 + 1 == i && q.2.category == 2))))) : lv_has ls nL (cvL ad (lset2 lv i v)) := by
  refine ⟨h.1, h.2.1, fun q hq => h.2.2 q ?_⟩
  obtain ⟨a, ha, rfl⟩ := List.mem_map.mp hq
  rcases lsetK_mem ha with rfl | ⟨h1, h2⟩
  · exact List.mem_cons_self
  · refine List.mem_cons_of_mem _ (List.mem_filter.mpr ⟨List.mem_map.mpr ⟨a, h1, rfl⟩, ?_⟩)
    simp only [cv_cat, nbeq]
    exact h2
def la : Nat → List mV → mLv
  | _, [] => []
  | i, v :: vs => (i, v) :: la (if cat v = 2 then i + 2 else i + 1) vs
theorem la_eq (ad : Nat → Nat → Nat) : ∀ (vs : List mV) (i : Nat), lv_args i (vs.map (cv ad)) = cvL ad (la i vs)
  | [], _ => rfl
  | v :: vs, i => by
    simp only [List.map_cons, lv_args, la, cvL, cv_cat, la_eq ad vs]
theorem lg_len (ad : Nat → Nat → Nat) : ∀ (vs : List mV), (lg_sl (vs.map (cv ad))).length = (vs.map cat).sum
  | [] => rfl
  | v :: vs => by
    have ih := lg_len ad vs
    have e : lg_sl ((v :: vs).map (cv ad)) = (if (cv ad v).category = 2 then [.val (cv ad v), .second] else [.val (cv ad v)]) ++ lg_sl (vs.map (cv ad)) := rfl
    rw [e, List.length_append, ih, cv_cat]
    rcases v with x | x | x <;> simp [cat]
/-! the judgement -/
def Qg (D : va_G) (cA : Nat → ClassId) (ad : Nat → Nat → Nat) (cl : mC) (post : mPo) (A : Nat → Prop) : Array Value → State → Outcome → State → Prop := fun _ st oc t =>
  (∃ (r : Option mV) (σ : mS), oc = .returned (r.map (cv ad)) ∧ post r σ ∧ va_P D vwCl (wl cA ad σ cl) t.heap) ∧ va_F A st t
def Meets (cl : mC) (y : MethodName) (ws : List Cond) (rm : Room) (av : List mV) (σ : mS) (post : mPo) : Prop :=
  ∀ (l : Launch) (D : va_G) (cA : Nat → ClassId) (ad : Nat → Nat → Nat) (sz : Nat), Met l y ws rm (va_Pc (av.map (cv ad)) (fun U => U.heap.size = sz ∧ va_P D vwCl (wl cA ad σ cl) U.heap ∧ va_K D vwCl (tyA cA) U ∧ va_D (fun _ => True) (wl cA ad σ cl))) (Qg D cA ad cl post (va_A (wl cA ad σ cl) sz)) 0 0 (va_A (wl cA ad σ cl) sz)
def Jd (p : Program) (l : Launch) (e : Env) (R : Room) (s : State) (m : MethodId) (args : Array Value) (below : List Frame) (meth : Method) (c : Code) (D : va_G) (cA : Nat → ClassId) (ad : Nat → Nat → Nat) (A : Nat → Prop) (cl : mC) (nL : Nat) (post : mPo) : mK := fun σ pc lv st =>
  ∀ (H : Heap) (locs : List Loc) (ls : Array Slot), va_P D vwCl (wl cA ad σ cl) H → va_S A s.heap H locs → lv_has ls nL (cvL ad lv) → W p l e R s m args below meth c H locs 0 0 (MQ below (Qg D cA ad cl post A) args s 0 0 A) (F0 m pc ls (st.map (cv ad)))
def Cx (p : Program) (s : State) (m : MethodId) (args : Array Value) (meth : Method) (c : Code) (cc : ByteArray) (ws : List Cond) (own : String) (nL : Nat) (ret : Option FieldType) (D : va_G) (cA : Nat → ClassId) (ad : Nat → Nat → Nat) (A : Nat → Prop) (cl : mC) : Prop :=
  p.tables.exec = Jvm.exec ∧ c.code = cc ∧ c.maxLocals = nL ∧ s.vm.findClass own = some m.cls ∧ (∀ w ∈ ws, w.before args s = true) ∧ va_K D vwCl (tyA cA) s ∧ (∀ σ, va_D A (wl cA ad σ cl)) ∧ (∀ q, s.heap.size ≤ q → A q) ∧ meth.sig.returnType = ret ∧ meth.locks = false
def Snd (cc : ByteArray) (ws : List Cond) (own : String) (nL : Nat) (ret : Option FieldType) (R : Room) (pc : Nat) (E : mE) : Prop :=
  ∀ (p : Program) (l : Launch) (e : Env) (s : State) (m : MethodId) (args : Array Value) (below : List Frame) (meth : Method) (c : Code) (D : va_G) (cA : Nat → ClassId) (ad : Nat → Nat → Nat) (A : Nat → Prop) (cl : mC) (post : mPo), Cx p s m args meth c cc ws own nL ret D cA ad A cl →
    ∀ K : mK, (∀ σ pc lv st, K σ pc lv st → Jd p l e R s m args below meth c D cA ad A cl nL post σ pc lv st) → ∀ σ lv st, E cl post K σ lv st → Jd p l e R s m args below meth c D cA ad A cl nL post σ pc lv st
def Cl (T : Nat → mE) (cl : mC) (post : mPo) (j : mK) : Prop := (∀ K : mK, (∀ σ pc lv st, K σ pc lv st → j σ pc lv st) → ∀ σ pc lv st, T pc cl post K σ lv st → j σ pc lv st) ∧ ∀ σ pc lv lv' st, (∀ q ∈ lv', q ∈ lv) → j σ pc lv' st → j σ pc lv st
def stp (T : Nat → mE) (cl : mC) (post : mPo) (j : mK) : Nat → mK
  | 0, σ, pc, lv, st => j σ pc lv st
  | n + 1, σ, pc, lv, st => T pc cl post (stp T cl post j n) σ lv st
theorem stp_j {T : Nat → mE} {cl : mC} {post : mPo} {j : mK} (h : Cl T cl post j) : ∀ (n : Nat) {σ : mS} {pc : Nat} {lv : mLv} {st : List mV}, stp T cl post j n σ pc lv st → j σ pc lv st
  | 0, _, _, _, _, q => q
  | n + 1, _, _, _, _, q => h.1 (stp T cl post j n) (fun _ _ _ _ q => stp_j h n q) _ _ _ _ q
/-- locals that are no longer wanted -/
theorem j_pre {T : Nat → mE} {cl : mC} {post : mPo} {j : mK} (h : Cl T cl post j) {σ : mS} {pc : Nat} {lv ext : mLv} {st : List mV} (q : j σ pc lv st) : j σ pc (lv ++ ext) st := h.2 σ pc (lv ++ ext) lv st (fun _ z => List.mem_append_left _ z) q
theorem Meets.of {T : Nat → mE} {cc : ByteArray} {ws ws' : List Cond} {own : String} {nL : Nat} {ret : Option FieldType} {rm : Room} {y : MethodName} {av : List mV} {σ : mS} {cl : mC} {post : mPo}
    (hT : ∀ pc, Snd cc ws own nL ret rm pc (T pc)) (hw : ws = Cond.code y cc nL ret :: ws') (hy : plainName y.cls = true) (hown : y.cls = own) (hn : (av.map cat).sum ≤ nL)
    (run : ∀ j, Cl T cl post j → j σ 0 (la 0 av) []) : Meets cl y ws rm av σ post := by
  intro l D cA ad sz
  refine Met.ofW (cc := cc) (maxL := nL) (ret := ret) hy hw ?_
  intro p e s m args below meth c s₁ B hml hv
  obtain ⟨rfl, hsz, hP, hK, hD0⟩ := hv
  have hx := B.exec
  have hb := B.bytes
  have hr := B.returns
  have hts := atoms_spec (ws := ws) B.pre
  have hfc : s.vm.findClass own = some m.cls := by rw [← hown]; exact findClass_of_methodNamed B.named
  have hlocks := B.notSynchronized
  subst hsz
  have hD := hD0.self (sz := s.heap.size)
  generalize hAe : va_A (wl cA ad σ cl) s.heap.size = A at hD ⊢
  have hA : ∀ q : Nat, s.heap.size ≤ q → A q := fun q h => by rw [← hAe]; exact Or.inr h
  have hl := lv_entry (av.map (cv ad)) (n := nL) (by rw [lg_len]; exact hn)
  rw [lg_entry_eq]
  generalize (lg_sl (av.map (cv ad)) ++ List.replicate (nL - (lg_sl (av.map (cv ad))).length) Slot.unset).toArray = ls at hl ⊢
  rw [la_eq] at hl
  have hc : Cx p s m (av.map (cv ad)).toArray meth c cc ws own nL ret D cA ad A cl := ⟨hx, hb, hml, hfc, hts, hK, fun τ => wl_D τ hD, hA, hr, hlocks⟩
  have hj : Cl T cl post (Jd p l e rm s m (av.map (cv ad)).toArray below meth c D cA ad A cl nL post) := ⟨fun K hK2 σ pc lv st q => hT pc p l e s m _ below meth c D cA ad A cl post hc K hK2 σ lv st q, fun σ pc lv lv' st hs hj H locs ls hP hS hl => hj H locs ls hP hS ⟨hl.1, hl.2.1, fun q hq => by
    obtain ⟨a, ha, rfl⟩ := List.mem_map.mp hq
    exact hl.2.2 _ (List.mem_map.mpr ⟨a, hs a ha, rfl⟩)⟩⟩
  exact run _ hj s.heap [] ls hP va_S.rf hl
/-- the table of a method's instructions: a tree by pc -/
def e_no : mE := fun _ _ _ _ _ _ => False
section SND
variable {cc : ByteArray} {ws : List Cond} {own : String} {nL : Nat} {ret : Option FieldType} {R : Room} {pc : Nat}
theorem snd_no : Snd cc ws own nL ret R pc e_no := fun _ _ _ _ _ _ _ _ _ _ _ _ _ _ _ _ _ _ _ _ _ h => False.elim h
theorem snd_c {b : Bool} {E F : mE} (h1 : Snd cc ws own nL ret R pc E) (h2 : Snd cc ws own nL ret R pc F) : Snd cc ws own nL ret R pc (cond b E F) := by
  cases b
  · exact h2
  · exact h1
theorem snd_l {k : Nat} {E : mE} (h : Snd cc ws own nL ret R k E) : Snd cc ws own nL ret R pc (cond (Nat.beq pc k) E e_no) := by
  cases hb : Nat.beq pc k with
  | true =>
    rw [Nat.eq_of_beq_eq_true hb]
    exact h
  | false => exact snd_no
end SND
/-! effects -/
def e_push (v : mV) (n : Nat) : mE := fun _ _ K σ lv st => K σ n lv (v :: st)
def e_iload (i n : Nat) : mE := fun _ _ K σ lv st => match lget lv i with
  | some (.inl x) => K σ n lv (.inl x :: st)
  | _ => False
def e_lload (i n : Nat) : mE := fun _ _ K σ lv st => match lget lv i with
  | some (.inr (.inl x)) => K σ n lv (.inr (.inl x) :: st)
  | _ => False
def e_aload (i n : Nat) : mE := fun _ _ K σ lv st => match lget lv i with
  | some (.inr (.inr x)) => K σ n lv (.inr (.inr x) :: st)
  | _ => False
def e_istore (i n : Nat) : mE := fun _ _ K σ lv st => match st with
  | .inl x :: r => K σ n (lset1 lv i (.inl x)) r
  | _ => False
def e_lstore (i n : Nat) : mE := fun _ _ K σ lv st => match st with
  | .inr (.inl x) :: r => K σ n (lset2 lv i (.inr (.inl x))) r
  | _ => False
def e_astore (i n : Nat) : mE := fun _ _ K σ lv st => match st with
  | .inr (.inr x) :: r => K σ n (lset1 lv i (.inr (.inr x))) r
  | _ => False
def e_iinc (i : Nat) (d : Int32) (n : Nat) : mE := fun _ _ K σ lv st => match lget lv i with
  | some (.inl x) => ∃ v : Int32, x + d = v ∧ K σ n (lset1 lv i (.inl v)) st
  | _ => False
def e_i2 (f : Int32 → Int32 → Int32) (n : Nat) : mE := fun _ _ K σ lv st => match st with
  | .inl y :: .inl x :: r => ∃ v : Int32, f x y = v ∧ K σ n lv (.inl v :: r)
  | _ => False
def e_irem (n : Nat) : mE := fun _ _ K σ lv st => match st with
  | .inl y :: .inl x :: r => (¬ y = 0) ∧ ∃ v : Int32, x - x / y * y = v ∧ K σ n lv (.inl v :: r)
  | _ => False
def e_l2 (f : Int64 → Int64 → Int64) (n : Nat) : mE := fun _ _ K σ lv st => match st with
  | .inr (.inl y) :: .inr (.inl x) :: r => ∃ v : Int64, f x y = v ∧ K σ n lv (.inr (.inl v) :: r)
  | _ => False
def e_lcmp (n : Nat) : mE := fun _ _ K σ lv st => match st with
  | .inr (.inl y) :: .inr (.inl x) :: r => ∃ v : Int32, lg_cmp x y = v ∧ K σ n lv (.inl v :: r)
  | _ => False
def e_i2l (n : Nat) : mE := fun _ _ K σ lv st => match st with
  | .inl x :: r => ∃ v : Int64, x.toInt64 = v ∧ K σ n lv (.inr (.inl v) :: r)
  | _ => False
def e_dup (n : Nat) : mE := fun _ _ K σ lv st => match st with
  | v :: r => cond (Nat.beq (cat v) 1) (K σ n lv (v :: v :: r)) False
  | _ => False
def e_pop (n : Nat) : mE := fun _ _ K σ lv st => match st with
  | v :: r => cond (Nat.beq (cat v) 1) (K σ n lv r) False
  | _ => False
def e_dup_x1 (n : Nat) : mE := fun _ _ K σ lv st => match st with
  | v :: w :: r => cond (Nat.beq (cat v) 1 && Nat.beq (cat w) 1) (K σ n lv (v :: w :: v :: r)) False
  | _ => False
def e_dup2 (n : Nat) : mE := fun _ _ K σ lv st => match st with
  | v :: w :: r => cond (Nat.beq (cat v) 1 && Nat.beq (cat w) 1) (K σ n lv (v :: w :: v :: w :: r)) False
  | _ => False
def e_if (P : Int32 → Prop) (t n : Nat) : mE := fun _ _ K σ lv st => match st with
  | .inl x :: r => (P x → K σ t lv r) ∧ (¬ P x → K σ n lv r)
  | _ => False
def e_ic (P : Int32 → Int32 → Prop) (t n : Nat) : mE := fun _ _ K σ lv st => match st with
  | .inl y :: .inl x :: r => (P x y → K σ t lv r) ∧ (¬ P x y → K σ n lv r)
  | _ => False
def e_goto (t : Nat) : mE := fun _ _ K σ lv st => K σ t lv st
def e_null (t n : Nat) : mE := fun _ _ K σ lv st => match st with
  | .inr (.inr none) :: r => K σ t lv r
  | .inr (.inr (some _)) :: r => K σ n lv r
  | _ => False
def e_acmp (t n : Nat) : mE := fun cl _ K σ lv st => match st with
  | .inr (.inr y) :: .inr (.inr x) :: r => vr cl x ∧ vr cl y ∧ (x = y → K σ t lv r) ∧ (¬ x = y → K σ n lv r)
  | _ => False
def e_tsw (lo : Int) (ts : List Nat) (t : Nat) : mE := fun _ _ K σ lv st => match st with
  | .inl x :: r => (∀ (i u : Nat), ts[i]? = some u → x.toInt = lo + i → K σ u lv r) ∧ ((x.toInt < lo ∨ lo + ts.length ≤ x.toInt) → K σ t lv r)
  | _ => False
def e_lsw : List (Int × Nat) → Nat → mE
  | [], t => fun _ _ K σ lv st => match st with
    | .inl _ :: r => K σ t lv r
    | _ => False
  | q :: ps, t => fun cl po K σ lv st => match st with
    | .inl x :: r => (x.toInt = q.1 → K σ q.2 lv r) ∧ (¬ x.toInt = q.1 → e_lsw ps t cl po K σ lv (.inl x :: r))
    | _ => False
def e_getf (ci f n : Nat) : mE := fun cl _ K σ lv st => match st with
  | .inr (.inr (some q)) :: r => match sh q.1 with
    | .inl o => cond (Nat.beq o ci) (q ∈ cl ∧ (match (fts ci).getD f 9 with
      | 1 => ∃ v : Int64, σ.2.1 q.1 q.2 f = v ∧ K σ n lv (mL v :: r)
      | 2 => K σ n lv (mO (wr q.1 q.2 f) :: r)
      | _ => ∃ v : Int32, σ.1 q.1 q.2 f = v ∧ K σ n lv (mI v :: r))) False
    | .inr _ => False
  | _ => False
def e_putf (ci f n : Nat) : mE := fun cl _ K σ lv st => match st with
  | v :: .inr (.inr (some q)) :: r => match sh q.1 with
    | .inl o => cond (Nat.beq o ci) (match (fts ci).getD f 9, v with
      | 0, .inl x => q ∈ cl ∧ K (sI σ q.1 q.2 f x) n lv r
      | 3, .inl x => q ∈ cl ∧ (x = 0 ∨ x = 1) ∧ K (sI σ q.1 q.2 f x) n lv r
      | 1, .inr (.inl x) => q ∈ cl ∧ K (sL σ q.1 q.2 f x) n lv r
      | _, _ => False) False
    | .inr _ => False
  | _ => False
/-- x is the index p, below n -/
def ix (x : Int32) (n p : Nat) : Prop := vp_in x n ∧ x.toNatClampNeg = p
theorem ix_nI {p n : Nat} (h : p < n) (hn : n < 2 ^ 31) : ix (nI p) n p := ⟨vp_in_nI h hn, nI_clamp (Nat.lt_trans h hn)⟩
def e_ald (ty n : Nat) : mE := fun cl _ K σ lv st => match st with
  | .inl x :: .inr (.inr (some q)) :: r => match sh q.1 with
    | .inl _ => False
    | .inr o => cond (Nat.beq o.1 ty) (q ∈ cl ∧ ∃ p : Nat, ix x o.2 p ∧ (match ty with
      | 1 => ∃ v : Int64, σ.2.1 q.1 q.2 p = v ∧ K σ n lv (mL v :: r)
      | 2 => ∃ v : Option (Nat × Nat), σ.2.2 q.1 q.2 p = v ∧ K σ n lv (mO v :: r)
      | _ => ∃ v : Int32, σ.1 q.1 q.2 p = v ∧ K σ n lv (mI v :: r))) False
  | _ => False
def isA (k : Nat) : Prop := match sh k with
  | .inl o => cond (Nat.beq o ciA) True False
  | .inr _ => False
def e_ast (ty n : Nat) : mE := fun cl _ K σ lv st => match st with
  | v :: .inl x :: .inr (.inr (some q)) :: r => match sh q.1 with
    | .inl _ => False
    | .inr o => cond (Nat.beq o.1 ty) (match ty, v with
      | 0, .inl w => q ∈ cl ∧ ∃ p : Nat, ix x o.2 p ∧ K (sI σ q.1 q.2 p w) n lv r
      | 3, .inl w => q ∈ cl ∧ ∃ p : Nat, ix x o.2 p ∧ (w = 0 ∨ w = 1) ∧ K (sI σ q.1 q.2 p w) n lv r
      | 1, .inr (.inl w) => q ∈ cl ∧ ∃ p : Nat, ix x o.2 p ∧ K (sL σ q.1 q.2 p w) n lv r
      | 2, .inr (.inr none) => q ∈ cl ∧ ∃ p : Nat, ix x o.2 p ∧ K (sR σ q.1 q.2 p none) n lv r
      | 2, .inr (.inr (some w)) => q ∈ cl ∧ ∃ p : Nat, ix x o.2 p ∧ w ∈ cl ∧ isA w.1 ∧ K (sR σ q.1 q.2 p (some w)) n lv r
      | _, _ => False) False
  | _ => False
def e_alen (n : Nat) : mE := fun cl _ K σ lv st => match st with
  | .inr (.inr (some q)) :: r => match sh q.1 with
    | .inl _ => False
    | .inr o => q ∈ cl ∧ K σ n lv (.inl (Int32.ofNat o.2) :: r)
  | _ => False
def rcv (ci : Nat) (cl : mC) (st : List mV) : Prop := match st with
  | .inr (.inr (some q)) :: _ => q ∈ cl ∧ (match sh q.1 with
    | .inl o => cond (Nat.beq o ci) True False
    | .inr _ => False)
  | _ => False
def few (st : List mV) : Prop := cond (Nat.ble ((st.map cat).sum) 8) True False
def e_callS (y : MethodName) (ws : List Cond) (rm : Room) (a n : Nat) : mE := fun cl _ K σ lv st => few (st.drop a) ∧ Nat.ble a st.length = true ∧ ∃ po : mPo, Meets cl y ws rm (st.take a).reverse σ po ∧ ∀ r τ, po r τ → K τ n lv (r.toList ++ st.drop a)
def e_callV (y : MethodName) (ws : List Cond) (rm : Room) (ci a n : Nat) : mE := fun cl _ K σ lv st => few (st.drop (a + 1)) ∧ rcv ci cl (st.drop a) ∧ ∃ po : mPo, Meets cl y ws rm (st.take (a + 1)).reverse σ po ∧ ∀ r τ, po r τ → K τ n lv (r.toList ++ st.drop (a + 1))
def e_copyL (n : Nat) : mE := fun cl _ K σ lv st => match st with
  | [.inl w, .inl dp, .inr (.inr (some q1)), .inl sp, .inr (.inr (some q0))] => match sh q0.1, sh q1.1 with
    | .inr o0, .inr o1 => cond (Nat.beq o0.1 1 && Nat.beq o1.1 1) (q0 ∈ cl ∧ q1 ∈ cl ∧ (¬ sp < 0) ∧ (¬ dp < 0) ∧ (¬ w < 0) ∧ sp.toNatClampNeg + w.toNatClampNeg ≤ o0.2 ∧ dp.toNatClampNeg + w.toNatClampNeg ≤ o1.2 ∧ K (sLf σ q1.1 q1.2 (va_cpy (σ.2.1 q0.1 q0.2) (σ.2.1 q1.1 q1.2) sp.toNatClampNeg dp.toNatClampNeg w.toNatClampNeg)) n lv []) False
    | _, _ => False
  | _ => False
def e_iret : mE := fun _ post _ σ _ st => match st with
  | [.inl x] => post (some (.inl x)) σ
  | _ => False
def e_zret : mE := fun _ post _ σ _ st => match st with
  | [.inl x] => (x = 0 ∨ x = 1) ∧ post (some (.inl x)) σ
  | _ => False
def e_vret : mE := fun _ post _ σ _ st => match st with
  | [] => post none σ
  | _ => False
def e_aret : mE := fun _ post _ σ _ st => match st with
  | [.inr (.inr x)] => post (some (.inr (.inr x))) σ
  | _ => False
section SN2
variable {cc : ByteArray} {ws : List Cond} {own : String} {nL : Nat} {ret : Option FieldType} {R : Room} {pc : Nat}
theorem snd_iconst {z : Int} {v : Int32} (d : decode cc pc = .ok (.iconst z, 1)) (hv : Int32.ofInt z = v) : Snd cc ws own nL ret R pc (e_push (mI v) (pc + 1)) := by
  intro p l e s m args below meth c D cA ad A cl post hc K hK σ lv st h H locs ls hP hS hl
  exact lv_iconst (v := v) hc.1 hc.2.1 d hv (hK σ (pc + 1) lv (mI v :: st) h H locs ls hP hS hl)
theorem snd_bipush {z : Int} {v : Int32} (d : decode cc pc = .ok (.bipush z, 2)) (hv : (Int8.ofInt z).toInt32 = v) : Snd cc ws own nL ret R pc (e_push (mI v) (pc + 2)) := by
  intro p l e s m args below meth c D cA ad A cl post hc K hK σ lv st h H locs ls hP hS hl
  exact lv_bipush (v := v) hc.1 hc.2.1 d hv (hK σ (pc + 2) lv (mI v :: st) h H locs ls hP hS hl)
theorem snd_sipush {z : Int} {v : Int32} (d : decode cc pc = .ok (.sipush z, 3)) (hv : (Int16.ofInt z).toInt32 = v) : Snd cc ws own nL ret R pc (e_push (mI v) (pc + 3)) := by
  intro p l e s m args below meth c D cA ad A cl post hc K hK σ lv st h H locs ls hP hS hl
  exact lv_sipush (v := v) hc.1 hc.2.1 d hv (hK σ (pc + 3) lv (mI v :: st) h H locs ls hP hS hl)
theorem snd_lconst {z : Fin 2} {v : Int64} (d : decode cc pc = .ok (.lconst z, 1)) (hv : Int64.ofNat (z : Nat) = v) : Snd cc ws own nL ret R pc (e_push (mL v) (pc + 1)) := by
  intro p l e s m args below meth c D cA ad A cl post hc K hK σ lv st h H locs ls hP hS hl
  exact lv_lconst (v := v) hc.1 hc.2.1 d hv (hK σ (pc + 1) lv (mL v :: st) h H locs ls hP hS hl)
theorem snd_ldc2 {index : Nat} {v : Int64} (d : decode cc pc = .ok (.ldc2_w index, 3)) (hv : (Cond.constantLong own index v) ∈ ws) : Snd cc ws own nL ret R pc (e_push (mL v) (pc + 3)) := by
  intro p l e s m args below meth c D cA ad A cl post hc K hK σ lv st h H locs ls hP hS hl
  exact lv_ldc2 (v := v) hc.1 hc.2.1 hc.2.2.2.1 (hc.2.2.2.2.1 _ hv) d (hK σ (pc + 3) lv (mL v :: st) h H locs ls hP hS hl)
theorem snd_null (d : decode cc pc = .ok (.aconst_null, 1)) : Snd cc ws own nL ret R pc (e_push mN (pc + 1)) := by
  intro p l e s m args below meth c D cA ad A cl post hc K hK σ lv st h H locs ls hP hS hl
  exact lv_null hc.1 hc.2.1 d (hK σ (pc + 1) lv (mN :: st) h H locs ls hP hS hl)
theorem snd_iload_n {k : Fin 4} {i : Nat} (d : decode cc pc = .ok (.iload_n k, 1)) (hi : (k : Nat) = i) : Snd cc ws own nL ret R pc (e_iload i (pc + 1)) := by
  intro p l e s m args below meth c D cA ad A cl post hc K hK σ lv st h H locs ls hP hS hl
  unfold e_iload at h
  split at h
  next x hx => exact lv_iload_n (x := x) hc.1 hc.2.1 d hi (lget_has hl hx) (hK σ (pc + 1) lv (.inl x :: st) h H locs ls hP hS hl)
  next => exact h.elim
theorem snd_iload {i : Nat} (d : decode cc pc = .ok (.iload i, 2)) : Snd cc ws own nL ret R pc (e_iload i (pc + 2)) := by
  intro p l e s m args below meth c D cA ad A cl post hc K hK σ lv st h H locs ls hP hS hl
  unfold e_iload at h
  split at h
  next x hx => exact lv_iload (x := x) hc.1 hc.2.1 d (lget_has hl hx) (hK σ (pc + 2) lv (.inl x :: st) h H locs ls hP hS hl)
  next => exact h.elim
theorem snd_lload_n {k : Fin 4} {i : Nat} (d : decode cc pc = .ok (.lload_n k, 1)) (hi : (k : Nat) = i) : Snd cc ws own nL ret R pc (e_lload i (pc + 1)) := by
  intro p l e s m args below meth c D cA ad A cl post hc K hK σ lv st h H locs ls hP hS hl
  unfold e_lload at h
  split at h
  next x hx => exact lv_lload_n (x := x) hc.1 hc.2.1 d hi (lget_has hl hx) (hK σ (pc + 1) lv (.inr (.inl x) :: st) h H locs ls hP hS hl)
  next => exact h.elim
theorem snd_lload {i : Nat} (d : decode cc pc = .ok (.lload i, 2)) : Snd cc ws own nL ret R pc (e_lload i (pc + 2)) := by
  intro p l e s m args below meth c D cA ad A cl post hc K hK σ lv st h H locs ls hP hS hl
  unfold e_lload at h
  split at h
  next x hx => exact lv_lload (x := x) hc.1 hc.2.1 d (lget_has hl hx) (hK σ (pc + 2) lv (.inr (.inl x) :: st) h H locs ls hP hS hl)
  next => exact h.elim
theorem snd_aload_n {k : Fin 4} {i : Nat} (d : decode cc pc = .ok (.aload_n k, 1)) (hi : (k : Nat) = i) : Snd cc ws own nL ret R pc (e_aload i (pc + 1)) := by
  intro p l e s m args below meth c D cA ad A cl post hc K hK σ lv st h H locs ls hP hS hl
  unfold e_aload at h
  split at h
  next x hx =>
    cases x with
    | none => exact lv_aload_nN hc.1 hc.2.1 d hi (lget_has hl hx) (hK σ (pc + 1) lv (.inr (.inr none) :: st) h H locs ls hP hS hl)
    | some q => exact lv_aload_n (x := ad q.1 q.2) hc.1 hc.2.1 d hi (lget_has hl hx) (hK σ (pc + 1) lv (.inr (.inr (some q)) :: st) h H locs ls hP hS hl)
  next => exact h.elim
theorem snd_aload {i : Nat} (d : decode cc pc = .ok (.aload i, 2)) : Snd cc ws own nL ret R pc (e_aload i (pc + 2)) := by
  intro p l e s m args below meth c D cA ad A cl post hc K hK σ lv st h H locs ls hP hS hl
  unfold e_aload at h
  split at h
  next x hx =>
    cases x with
    | none => exact lv_aloadN hc.1 hc.2.1 d (lget_has hl hx) (hK σ (pc + 2) lv (.inr (.inr none) :: st) h H locs ls hP hS hl)
    | some q => exact lv_aload (x := ad q.1 q.2) hc.1 hc.2.1 d (lget_has hl hx) (hK σ (pc + 2) lv (.inr (.inr (some q)) :: st) h H locs ls hP hS hl)
  next => exact h.elim
theorem snd_istore_n {k : Fin 4} {i : Nat} (d : decode cc pc = .ok (.istore_n k, 1)) (hi : (k : Nat) = i) (hn : i < nL) : Snd cc ws own nL ret R pc (e_istore i (pc + 1)) := by
  intro p l e s m args below meth c D cA ad A cl post hc K hK σ lv st h H locs ls hP hS hl
  rcases st with _ | ⟨(x | x | x), r⟩ <;> first | exact False.elim h | skip
  exact lv_istore_n (x := x) hc.1 hc.2.1 d hi hl hn rfl (fun ls' hl' => hK σ (pc + 1) (lset1 lv i (.inl x)) r h H locs ls' hP hS (cvL_set1 hl'))
theorem snd_istore {i : Nat} (d : decode cc pc = .ok (.istore i, 2)) (hn : i < nL) : Snd cc ws own nL ret R pc (e_istore i (pc + 2)) := by
  intro p l e s m args below meth c D cA ad A cl post hc K hK σ lv st h H locs ls hP hS hl
  rcases st with _ | ⟨(x | x | x), r⟩ <;> first | exact False.elim h | skip
  exact lv_istore (x := x) hc.1 hc.2.1 d hl hn rfl (fun ls' hl' => hK σ (pc + 2) (lset1 lv i (.inl x)) r h H locs ls' hP hS (cvL_set1 hl'))
theorem snd_lstore_n {k : Fin 4} {i : Nat} (d : decode cc pc = .ok (.lstore_n k, 1)) (hi : (k : Nat) = i) (hn : i + 1 < nL) : Snd cc ws own nL ret R pc (e_lstore i (pc + 1)) := by
  intro p l e s m args below meth c D cA ad A cl post hc K hK σ lv st h H locs ls hP hS hl
  rcases st with _ | ⟨(x | x | x), r⟩ <;> first | exact False.elim h | skip
  exact lv_lstore_n (x := x) hc.1 hc.2.1 d hi hl hn rfl (fun ls' hl' => hK σ (pc + 1) (lset2 lv i (.inr (.inl x))) r h H locs ls' hP hS (cvL_set2 hl'))
theorem snd_lstore {i : Nat} (d : decode cc pc = .ok (.lstore i, 2)) (hn : i + 1 < nL) : Snd cc ws own nL ret R pc (e_lstore i (pc + 2)) := by
  intro p l e s m args below meth c D cA ad A cl post hc K hK σ lv st h H locs ls hP hS hl
  rcases st with _ | ⟨(x | x | x), r⟩ <;> first | exact False.elim h | skip
  exact lv_lstore (x := x) hc.1 hc.2.1 d hl hn rfl (fun ls' hl' => hK σ (pc + 2) (lset2 lv i (.inr (.inl x))) r h H locs ls' hP hS (cvL_set2 hl'))
theorem snd_astore_n {k : Fin 4} {i : Nat} (d : decode cc pc = .ok (.astore_n k, 1)) (hi : (k : Nat) = i) (hn : i < nL) : Snd cc ws own nL ret R pc (e_astore i (pc + 1)) := by
  intro p l e s m args below meth c D cA ad A cl post hc K hK σ lv st h H locs ls hP hS hl
  rcases st with _ | ⟨(x | x | (_ | q)), r⟩ <;> first | exact False.elim h | skip
  · exact lv_astore_nN hc.1 hc.2.1 d hi hl hn rfl (fun ls' hl' => hK σ (pc + 1) (lset1 lv i (.inr (.inr none))) r h H locs ls' hP hS (cvL_set1 hl'))
  · exact lv_astore_n (x := ad q.1 q.2) hc.1 hc.2.1 d hi hl hn rfl (fun ls' hl' => hK σ (pc + 1) (lset1 lv i (.inr (.inr (some q)))) r h H locs ls' hP hS (cvL_set1 hl'))
theorem snd_astore {i : Nat} (d : decode cc pc = .ok (.astore i, 2)) (hn : i < nL) : Snd cc ws own nL ret R pc (e_astore i (pc + 2)) := by
  intro p l e s m args below meth c D cA ad A cl post hc K hK σ lv st h H locs ls hP hS hl
  rcases st with _ | ⟨(x | x | (_ | q)), r⟩ <;> first | exact False.elim h | skip
  · exact lv_astoreN hc.1 hc.2.1 d hl hn rfl (fun ls' hl' => hK σ (pc + 2) (lset1 lv i (.inr (.inr none))) r h H locs ls' hP hS (cvL_set1 hl'))
  · exact lv_astore (x := ad q.1 q.2) hc.1 hc.2.1 d hl hn rfl (fun ls' hl' => hK σ (pc + 2) (lset1 lv i (.inr (.inr (some q)))) r h H locs ls' hP hS (cvL_set1 hl'))
theorem snd_iinc {i : Nat} {z : Int} {v : Int32} (d : decode cc pc = .ok (.iinc i z, 3)) (hv : Int32.ofInt z = v) (hn : i < nL) : Snd cc ws own nL ret R pc (e_iinc i v (pc + 3)) := by
  intro p l e s m args below meth c D cA ad A cl post hc K hK σ lv st h H locs ls hP hS hl
  subst hv
  unfold e_iinc at h
  split at h
  next x hx =>
    obtain ⟨v, rfl, h⟩ := h
    obtain ⟨k, hk⟩ := List.getElem?_of_mem (show (i, Value.int x) ∈ cvL ad lv from List.mem_map.mpr ⟨(i, .inl x), lget_mem hx, rfl⟩)
    exact lv_iinc (x := x) hc.1 hc.2.1 d hl hk rfl hn rfl (fun ls' hl' => hK σ (pc + 3) (lset1 lv i (.inl (x + Int32.ofInt z))) st h H locs ls' hP hS (cvL_set1 hl'))
  next => exact h.elim
theorem snd_iadd (d : decode cc pc = .ok (.iadd, 1)) : Snd cc ws own nL ret R pc (e_i2 (fun x y => x + y) (pc + 1)) := by
  intro p l e s m args below meth c D cA ad A cl post hc K hK σ lv st h H locs ls hP hS hl
  rcases st with _ | ⟨(y | y | y), _ | ⟨(x | x | x), r⟩⟩ <;> first | exact False.elim h | skip
  obtain ⟨v, rfl, h⟩ := h
  exact lv_iadd (x := x) (y := y) hc.1 hc.2.1 d (hK σ (pc + 1) lv (.inl (x + y) :: r) h H locs ls hP hS hl)
theorem snd_isub (d : decode cc pc = .ok (.isub, 1)) : Snd cc ws own nL ret R pc (e_i2 (fun x y => x - y) (pc + 1)) := by
  intro p l e s m args below meth c D cA ad A cl post hc K hK σ lv st h H locs ls hP hS hl
  rcases st with _ | ⟨(y | y | y), _ | ⟨(x | x | x), r⟩⟩ <;> first | exact False.elim h | skip
  obtain ⟨v, rfl, h⟩ := h
  exact lv_isub (x := x) (y := y) hc.1 hc.2.1 d (hK σ (pc + 1) lv (.inl (x - y) :: r) h H locs ls hP hS hl)
theorem snd_imul (d : decode cc pc = .ok (.imul, 1)) : Snd cc ws own nL ret R pc (e_i2 (fun x y => x * y) (pc + 1)) := by
  intro p l e s m args below meth c D cA ad A cl post hc K hK σ lv st h H locs ls hP hS hl
  rcases st with _ | ⟨(y | y | y), _ | ⟨(x | x | x), r⟩⟩ <;> first | exact False.elim h | skip
  obtain ⟨v, rfl, h⟩ := h
  exact lv_imul (x := x) (y := y) hc.1 hc.2.1 d (hK σ (pc + 1) lv (.inl (x * y) :: r) h H locs ls hP hS hl)
theorem snd_iand (d : decode cc pc = .ok (.iand, 1)) : Snd cc ws own nL ret R pc (e_i2 (fun x y => x &&& y) (pc + 1)) := by
  intro p l e s m args below meth c D cA ad A cl post hc K hK σ lv st h H locs ls hP hS hl
  rcases st with _ | ⟨(y | y | y), _ | ⟨(x | x | x), r⟩⟩ <;> first | exact False.elim h | skip
  obtain ⟨v, rfl, h⟩ := h
  exact lv_iand (x := x) (y := y) hc.1 hc.2.1 d (hK σ (pc + 1) lv (.inl (x &&& y) :: r) h H locs ls hP hS hl)
theorem snd_ior (d : decode cc pc = .ok (.ior, 1)) : Snd cc ws own nL ret R pc (e_i2 (fun x y => x ||| y) (pc + 1)) := by
  intro p l e s m args below meth c D cA ad A cl post hc K hK σ lv st h H locs ls hP hS hl
  rcases st with _ | ⟨(y | y | y), _ | ⟨(x | x | x), r⟩⟩ <;> first | exact False.elim h | skip
  obtain ⟨v, rfl, h⟩ := h
  exact lv_ior (x := x) (y := y) hc.1 hc.2.1 d (hK σ (pc + 1) lv (.inl (x ||| y) :: r) h H locs ls hP hS hl)
theorem snd_ixor (d : decode cc pc = .ok (.ixor, 1)) : Snd cc ws own nL ret R pc (e_i2 (fun x y => x ^^^ y) (pc + 1)) := by
  intro p l e s m args below meth c D cA ad A cl post hc K hK σ lv st h H locs ls hP hS hl
  rcases st with _ | ⟨(y | y | y), _ | ⟨(x | x | x), r⟩⟩ <;> first | exact False.elim h | skip
  obtain ⟨v, rfl, h⟩ := h
  exact lv_ixor (x := x) (y := y) hc.1 hc.2.1 d (hK σ (pc + 1) lv (.inl (x ^^^ y) :: r) h H locs ls hP hS hl)
theorem snd_ishl (d : decode cc pc = .ok (.ishl, 1)) : Snd cc ws own nL ret R pc (e_i2 (fun x y => x <<< (y &&& 31)) (pc + 1)) := by
  intro p l e s m args below meth c D cA ad A cl post hc K hK σ lv st h H locs ls hP hS hl
  rcases st with _ | ⟨(y | y | y), _ | ⟨(x | x | x), r⟩⟩ <;> first | exact False.elim h | skip
  obtain ⟨v, rfl, h⟩ := h
  exact lv_ishl (x := x) (y := y) hc.1 hc.2.1 d (hK σ (pc + 1) lv (.inl (x <<< (y &&& 31)) :: r) h H locs ls hP hS hl)
theorem snd_irem (d : decode cc pc = .ok (.irem, 1)) : Snd cc ws own nL ret R pc (e_irem (pc + 1)) := by
  intro p l e s m args below meth c D cA ad A cl post hc K hK σ lv st h H locs ls hP hS hl
  rcases st with _ | ⟨(y | y | y), _ | ⟨(x | x | x), r⟩⟩ <;> first | exact False.elim h | skip
  obtain ⟨h0, v, rfl, h⟩ := h
  exact lv_irem (x := x) (y := y) hc.1 hc.2.1 d h0 (hK σ (pc + 1) lv (.inl (x - x / y * y) :: r) h H locs ls hP hS hl)
theorem snd_ladd (d : decode cc pc = .ok (.ladd, 1)) : Snd cc ws own nL ret R pc (e_l2 (fun x y => x + y) (pc + 1)) := by
  intro p l e s m args below meth c D cA ad A cl post hc K hK σ lv st h H locs ls hP hS hl
  rcases st with _ | ⟨(y | y | y), _ | ⟨(x | x | x), r⟩⟩ <;> first | exact False.elim h | skip
  obtain ⟨v, rfl, h⟩ := h
  exact lv_ladd (x := x) (y := y) hc.1 hc.2.1 d (hK σ (pc + 1) lv (.inr (.inl (x + y)) :: r) h H locs ls hP hS hl)
theorem snd_lsub (d : decode cc pc = .ok (.lsub, 1)) : Snd cc ws own nL ret R pc (e_l2 (fun x y => x - y) (pc + 1)) := by
  intro p l e s m args below meth c D cA ad A cl post hc K hK σ lv st h H locs ls hP hS hl
  rcases st with _ | ⟨(y | y | y), _ | ⟨(x | x | x), r⟩⟩ <;> first | exact False.elim h | skip
  obtain ⟨v, rfl, h⟩ := h
  exact lv_lsub (x := x) (y := y) hc.1 hc.2.1 d (hK σ (pc + 1) lv (.inr (.inl (x - y)) :: r) h H locs ls hP hS hl)
theorem snd_lcmp (d : decode cc pc = .ok (.lcmp, 1)) : Snd cc ws own nL ret R pc (e_lcmp (pc + 1)) := by
  intro p l e s m args below meth c D cA ad A cl post hc K hK σ lv st h H locs ls hP hS hl
  rcases st with _ | ⟨(y | y | y), _ | ⟨(x | x | x), r⟩⟩ <;> first | exact False.elim h | skip
  obtain ⟨v, rfl, h⟩ := h
  exact W.lcmp (x := x) (y := y) hc.1 hc.2.1 d (hK σ (pc + 1) lv (.inl (lg_cmp x y) :: r) h H locs ls hP hS hl)
theorem snd_i2l (d : decode cc pc = .ok (.i2l, 1)) : Snd cc ws own nL ret R pc (e_i2l (pc + 1)) := by
  intro p l e s m args below meth c D cA ad A cl post hc K hK σ lv st h H locs ls hP hS hl
  rcases st with _ | ⟨(x | x | x), r⟩ <;> first | exact False.elim h | skip
  obtain ⟨v, rfl, h⟩ := h
  exact lv_i2l (x := x) hc.1 hc.2.1 d rfl (hK σ (pc + 1) lv (.inr (.inl x.toInt64) :: r) h H locs ls hP hS hl)
theorem cat1 {b : Nat} {P : Prop} (h : cond (Nat.beq b 1) P False) : b = 1 ∧ P := by
  cases hb : Nat.beq b 1 with
  | true => rw [hb] at h; exact ⟨Nat.eq_of_beq_eq_true hb, h⟩
  | false => rw [hb] at h; exact False.elim h
theorem cat2 {b c : Nat} {P : Prop} (h : cond (Nat.beq b 1 && Nat.beq c 1) P False) : b = 1 ∧ c = 1 ∧ P := by
  cases hb : Nat.beq b 1 with
  | true => cases hc : Nat.beq c 1 with
    | true => rw [hb, hc] at h; exact ⟨Nat.eq_of_beq_eq_true hb, Nat.eq_of_beq_eq_true hc, h⟩
    | false => rw [hb, hc] at h; exact False.elim h
  | false => rw [hb] at h; exact False.elim h
theorem beq_of {b c : Nat} {P : Prop} (h : cond (Nat.beq b c) P False) : b = c ∧ P := by
  cases hb : Nat.beq b c with
  | true => rw [hb] at h; exact ⟨Nat.eq_of_beq_eq_true hb, h⟩
  | false => rw [hb] at h; exact False.elim h
theorem snd_dup (d : decode cc pc = .ok (.dup, 1)) : Snd cc ws own nL ret R pc (e_dup (pc + 1)) := by
  intro p l e s m args below meth c D cA ad A cl post hc K hK σ lv st h H locs ls hP hS hl
  rcases st with _ | ⟨v, r⟩ <;> first | exact False.elim h | skip
  obtain ⟨h1, h⟩ := cat1 h
  exact lv_dup (va := cv ad v) hc.1 hc.2.1 d (by rw [cv_cat]; exact h1) (hK σ (pc + 1) lv (v :: v :: r) h H locs ls hP hS hl)
theorem snd_pop (d : decode cc pc = .ok (.pop, 1)) : Snd cc ws own nL ret R pc (e_pop (pc + 1)) := by
  intro p l e s m args below meth c D cA ad A cl post hc K hK σ lv st h H locs ls hP hS hl
  rcases st with _ | ⟨v, r⟩ <;> first | exact False.elim h | skip
  obtain ⟨h1, h⟩ := cat1 h
  exact lv_pop (va := cv ad v) hc.1 hc.2.1 d (by rw [cv_cat]; exact h1) (hK σ (pc + 1) lv r h H locs ls hP hS hl)
theorem snd_dup_x1 (d : decode cc pc = .ok (.dup_x1, 1)) : Snd cc ws own nL ret R pc (e_dup_x1 (pc + 1)) := by
  intro p l e s m args below meth c D cA ad A cl post hc K hK σ lv st h H locs ls hP hS hl
  rcases st with _ | ⟨v, _ | ⟨w, r⟩⟩ <;> first | exact False.elim h | skip
  obtain ⟨h1, h2, h⟩ := cat2 h
  exact lv_dup_x1 (va := cv ad v) (vb := cv ad w) hc.1 hc.2.1 d (by rw [cv_cat]; exact h1) (by rw [cv_cat]; exact h2) (hK σ (pc + 1) lv (v :: w :: v :: r) h H locs ls hP hS hl)
theorem snd_dup2 (d : decode cc pc = .ok (.dup2, 1)) : Snd cc ws own nL ret R pc (e_dup2 (pc + 1)) := by
  intro p l e s m args below meth c D cA ad A cl post hc K hK σ lv st h H locs ls hP hS hl
  rcases st with _ | ⟨v, _ | ⟨w, r⟩⟩ <;> first | exact False.elim h | skip
  obtain ⟨h1, h2, h⟩ := cat2 h
  exact lv_dup2_11 (va := cv ad v) (vb := cv ad w) hc.1 hc.2.1 d (by rw [cv_cat]; exact h1) (by rw [cv_cat]; exact h2) (hK σ (pc + 1) lv (v :: w :: v :: w :: r) h H locs ls hP hS hl)
theorem snd_if_eq {off : Int} {tgt : Nat} (d : decode cc pc = .ok (.ifCond .eq off, 3)) (ht : (pc : Int) + off = (tgt : Int)) : Snd cc ws own nL ret R pc (e_if (fun x => x = 0) tgt (pc + 3)) := by
  intro p l e s m args below meth c D cA ad A cl post hc K hK σ lv st h H locs ls hP hS hl
  rcases st with _ | ⟨(x | x | x), r⟩ <;> first | exact False.elim h | skip
  exact lv_if_eq (x := x) hc.1 hc.2.1 d ht (fun q => hK σ tgt lv r (h.1 q) H locs ls hP hS hl) (fun q => hK σ (pc + 3) lv r (h.2 q) H locs ls hP hS hl)
theorem snd_if_ne {off : Int} {tgt : Nat} (d : decode cc pc = .ok (.ifCond .ne off, 3)) (ht : (pc : Int) + off = (tgt : Int)) : Snd cc ws own nL ret R pc (e_if (fun x => ¬ x = 0) tgt (pc + 3)) := by
  intro p l e s m args below meth c D cA ad A cl post hc K hK σ lv st h H locs ls hP hS hl
  rcases st with _ | ⟨(x | x | x), r⟩ <;> first | exact False.elim h | skip
  exact lv_if_ne (x := x) hc.1 hc.2.1 d ht (fun q => hK σ tgt lv r (h.1 q) H locs ls hP hS hl) (fun q => hK σ (pc + 3) lv r (h.2 (fun z => z q)) H locs ls hP hS hl)
theorem snd_if_lt {off : Int} {tgt : Nat} (d : decode cc pc = .ok (.ifCond .lt off, 3)) (ht : (pc : Int) + off = (tgt : Int)) : Snd cc ws own nL ret R pc (e_if (fun x => x < 0) tgt (pc + 3)) := by
  intro p l e s m args below meth c D cA ad A cl post hc K hK σ lv st h H locs ls hP hS hl
  rcases st with _ | ⟨(x | x | x), r⟩ <;> first | exact False.elim h | skip
  exact lv_if_lt (x := x) hc.1 hc.2.1 d ht (fun q => hK σ tgt lv r (h.1 q) H locs ls hP hS hl) (fun q => hK σ (pc + 3) lv r (h.2 q) H locs ls hP hS hl)
theorem snd_if_ge {off : Int} {tgt : Nat} (d : decode cc pc = .ok (.ifCond .ge off, 3)) (ht : (pc : Int) + off = (tgt : Int)) : Snd cc ws own nL ret R pc (e_if (fun x => 0 ≤ x) tgt (pc + 3)) := by
  intro p l e s m args below meth c D cA ad A cl post hc K hK σ lv st h H locs ls hP hS hl
  rcases st with _ | ⟨(x | x | x), r⟩ <;> first | exact False.elim h | skip
  exact lv_if_ge (x := x) hc.1 hc.2.1 d ht (fun q => hK σ tgt lv r (h.1 q) H locs ls hP hS hl) (fun q => hK σ (pc + 3) lv r (h.2 q) H locs ls hP hS hl)
theorem snd_if_gt {off : Int} {tgt : Nat} (d : decode cc pc = .ok (.ifCond .gt off, 3)) (ht : (pc : Int) + off = (tgt : Int)) : Snd cc ws own nL ret R pc (e_if (fun x => 0 < x) tgt (pc + 3)) := by
  intro p l e s m args below meth c D cA ad A cl post hc K hK σ lv st h H locs ls hP hS hl
  rcases st with _ | ⟨(x | x | x), r⟩ <;> first | exact False.elim h | skip
  exact lv_if_gt (x := x) hc.1 hc.2.1 d ht (fun q => hK σ tgt lv r (h.1 q) H locs ls hP hS hl) (fun q => hK σ (pc + 3) lv r (h.2 q) H locs ls hP hS hl)
theorem snd_if_le {off : Int} {tgt : Nat} (d : decode cc pc = .ok (.ifCond .le off, 3)) (ht : (pc : Int) + off = (tgt : Int)) : Snd cc ws own nL ret R pc (e_if (fun x => x ≤ 0) tgt (pc + 3)) := by
  intro p l e s m args below meth c D cA ad A cl post hc K hK σ lv st h H locs ls hP hS hl
  rcases st with _ | ⟨(x | x | x), r⟩ <;> first | exact False.elim h | skip
  exact lv_if_le (x := x) hc.1 hc.2.1 d ht (fun q => hK σ tgt lv r (h.1 q) H locs ls hP hS hl) (fun q => hK σ (pc + 3) lv r (h.2 q) H locs ls hP hS hl)
theorem snd_ic_eq {off : Int} {tgt : Nat} (d : decode cc pc = .ok (.if_icmp .eq off, 3)) (ht : (pc : Int) + off = (tgt : Int)) : Snd cc ws own nL ret R pc (e_ic (fun x y => x = y) tgt (pc + 3)) := by
  intro p l e s m args below meth c D cA ad A cl post hc K hK σ lv st h H locs ls hP hS hl
  rcases st with _ | ⟨(y | y | y), _ | ⟨(x | x | x), r⟩⟩ <;> first | exact False.elim h | skip
  exact lv_icmp_eq (x := x) (y := y) hc.1 hc.2.1 d ht (fun q => hK σ tgt lv r (h.1 q) H locs ls hP hS hl) (fun q => hK σ (pc + 3) lv r (h.2 q) H locs ls hP hS hl)
theorem snd_ic_ne {off : Int} {tgt : Nat} (d : decode cc pc = .ok (.if_icmp .ne off, 3)) (ht : (pc : Int) + off = (tgt : Int)) : Snd cc ws own nL ret R pc (e_ic (fun x y => ¬ x = y) tgt (pc + 3)) := by
  intro p l e s m args below meth c D cA ad A cl post hc K hK σ lv st h H locs ls hP hS hl
  rcases st with _ | ⟨(y | y | y), _ | ⟨(x | x | x), r⟩⟩ <;> first | exact False.elim h | skip
  exact lv_icmp_ne (x := x) (y := y) hc.1 hc.2.1 d ht (fun q => hK σ tgt lv r (h.1 q) H locs ls hP hS hl) (fun q => hK σ (pc + 3) lv r (h.2 (fun z => z q)) H locs ls hP hS hl)
theorem snd_ic_lt {off : Int} {tgt : Nat} (d : decode cc pc = .ok (.if_icmp .lt off, 3)) (ht : (pc : Int) + off = (tgt : Int)) : Snd cc ws own nL ret R pc (e_ic (fun x y => x < y) tgt (pc + 3)) := by
  intro p l e s m args below meth c D cA ad A cl post hc K hK σ lv st h H locs ls hP hS hl
  rcases st with _ | ⟨(y | y | y), _ | ⟨(x | x | x), r⟩⟩ <;> first | exact False.elim h | skip
  exact lv_icmp_lt (x := x) (y := y) hc.1 hc.2.1 d ht (fun q => hK σ tgt lv r (h.1 q) H locs ls hP hS hl) (fun q => hK σ (pc + 3) lv r (h.2 q) H locs ls hP hS hl)
theorem snd_ic_ge {off : Int} {tgt : Nat} (d : decode cc pc = .ok (.if_icmp .ge off, 3)) (ht : (pc : Int) + off = (tgt : Int)) : Snd cc ws own nL ret R pc (e_ic (fun x y => y ≤ x) tgt (pc + 3)) := by
  intro p l e s m args below meth c D cA ad A cl post hc K hK σ lv st h H locs ls hP hS hl
  rcases st with _ | ⟨(y | y | y), _ | ⟨(x | x | x), r⟩⟩ <;> first | exact False.elim h | skip
  exact lv_icmp_ge (x := x) (y := y) hc.1 hc.2.1 d ht (fun q => hK σ tgt lv r (h.1 q) H locs ls hP hS hl) (fun q => hK σ (pc + 3) lv r (h.2 q) H locs ls hP hS hl)
theorem snd_ic_gt {off : Int} {tgt : Nat} (d : decode cc pc = .ok (.if_icmp .gt off, 3)) (ht : (pc : Int) + off = (tgt : Int)) : Snd cc ws own nL ret R pc (e_ic (fun x y => y < x) tgt (pc + 3)) := by
  intro p l e s m args below meth c D cA ad A cl post hc K hK σ lv st h H locs ls hP hS hl
  rcases st with _ | ⟨(y | y | y), _ | ⟨(x | x | x), r⟩⟩ <;> first | exact False.elim h | skip
  exact lv_icmp_gt (x := x) (y := y) hc.1 hc.2.1 d ht (fun q => hK σ tgt lv r (h.1 q) H locs ls hP hS hl) (fun q => hK σ (pc + 3) lv r (h.2 q) H locs ls hP hS hl)
theorem snd_ic_le {off : Int} {tgt : Nat} (d : decode cc pc = .ok (.if_icmp .le off, 3)) (ht : (pc : Int) + off = (tgt : Int)) : Snd cc ws own nL ret R pc (e_ic (fun x y => x ≤ y) tgt (pc + 3)) := by
  intro p l e s m args below meth c D cA ad A cl post hc K hK σ lv st h H locs ls hP hS hl
  rcases st with _ | ⟨(y | y | y), _ | ⟨(x | x | x), r⟩⟩ <;> first | exact False.elim h | skip
  exact lv_icmp_le (x := x) (y := y) hc.1 hc.2.1 d ht (fun q => hK σ tgt lv r (h.1 q) H locs ls hP hS hl) (fun q => hK σ (pc + 3) lv r (h.2 q) H locs ls hP hS hl)
theorem snd_goto {off : Int} {tgt : Nat} (d : decode cc pc = .ok (.goto off, 3)) (ht : (pc : Int) + off = (tgt : Int)) : Snd cc ws own nL ret R pc (e_goto tgt) := by
  intro p l e s m args below meth c D cA ad A cl post hc K hK σ lv st h H locs ls hP hS hl
  exact lv_goto hc.1 hc.2.1 d ht (hK σ tgt lv st h H locs ls hP hS hl)
theorem snd_ifnull {off : Int} {tgt : Nat} (d : decode cc pc = .ok (.ifnull off, 3)) (ht : (pc : Int) + off = (tgt : Int)) : Snd cc ws own nL ret R pc (e_null tgt (pc + 3)) := by
  intro p l e s m args below meth c D cA ad A cl post hc K hK σ lv st h H locs ls hP hS hl
  rcases st with _ | ⟨(x | x | (_ | x)), r⟩ <;> first | exact False.elim h | skip
  · exact lv_ifnullN hc.1 hc.2.1 d ht (hK σ tgt lv r h H locs ls hP hS hl)
  · exact lv_ifnull (x := ad x.1 x.2) hc.1 hc.2.1 d (hK σ (pc + 3) lv r h H locs ls hP hS hl)
theorem snd_ifnonnull {off : Int} {tgt : Nat} (d : decode cc pc = .ok (.ifnonnull off, 3)) (ht : (pc : Int) + off = (tgt : Int)) : Snd cc ws own nL ret R pc (e_null (pc + 3) tgt) := by
  intro p l e s m args below meth c D cA ad A cl post hc K hK σ lv st h H locs ls hP hS hl
  rcases st with _ | ⟨(x | x | (_ | x)), r⟩ <;> first | exact False.elim h | skip
  · exact lv_ifnonnullN hc.1 hc.2.1 d (hK σ (pc + 3) lv r h H locs ls hP hS hl)
  · exact lv_ifnonnull (x := ad x.1 x.2) hc.1 hc.2.1 d ht (hK σ tgt lv r h H locs ls hP hS hl)
theorem snd_acmp_eq {off : Int} {tgt : Nat} (d : decode cc pc = .ok (.if_acmp .eq off, 3)) (ht : (pc : Int) + off = (tgt : Int)) : Snd cc ws own nL ret R pc (e_acmp tgt (pc + 3)) := by
  intro p l e s m args below meth c D cA ad A cl post hc K hK σ lv st h H locs ls hP hS hl
  rcases st with _ | ⟨(y | y | y), _ | ⟨(x | x | x), r⟩⟩ <;> first | exact False.elim h | skip
  obtain ⟨v1, v2, h1, h2⟩ := h
  have hi := cad_inj (hc.2.2.2.2.2.2.1 σ) v1 v2
  exact lv_acmp_eq (rx := cad ad x) (ry := cad ad y) hc.1 hc.2.1 d ht (fun q => hK σ tgt lv r (h1 (hi.mp q)) H locs ls hP hS hl) (fun q => hK σ (pc + 3) lv r (h2 (fun z => q (hi.mpr z))) H locs ls hP hS hl)
theorem snd_acmp_ne {off : Int} {tgt : Nat} (d : decode cc pc = .ok (.if_acmp .ne off, 3)) (ht : (pc : Int) + off = (tgt : Int)) : Snd cc ws own nL ret R pc (e_acmp (pc + 3) tgt) := by
  intro p l e s m args below meth c D cA ad A cl post hc K hK σ lv st h H locs ls hP hS hl
  rcases st with _ | ⟨(y | y | y), _ | ⟨(x | x | x), r⟩⟩ <;> first | exact False.elim h | skip
  obtain ⟨v1, v2, h1, h2⟩ := h
  have hi := cad_inj (hc.2.2.2.2.2.2.1 σ) v1 v2
  exact lv_acmp_ne (rx := cad ad x) (ry := cad ad y) hc.1 hc.2.1 d ht (fun q => hK σ tgt lv r (h2 (fun z => q (hi.mpr z))) H locs ls hP hS hl) (fun q => hK σ (pc + 3) lv r (h1 (hi.mp q)) H locs ls hP hS hl)
theorem snd_tsw {dflt lo hi : Int} {offs : Array Int} {len t : Nat} {ts : List Nat} (d : decode cc pc = .ok (.tableswitch dflt lo hi offs, len)) (h0 : (pc : Int) + dflt = (t : Int)) (h1 : hi = lo + ts.length - 1) (h2 : offs.toList.map (fun o => (pc : Int) + o) = ts.map (fun u : Nat => (u : Int))) : Snd cc ws own nL ret R pc (e_tsw lo ts t) := by
  intro p l e s m args below meth c D cA ad A cl post hc K hK σ lv st h H locs ls hP hS hl
  rcases st with _ | ⟨(x | x | x), r⟩ <;> first | exact False.elim h | skip
  obtain ⟨k1, k2⟩ := h
  by_cases hb : x.toInt < lo ∨ hi < x.toInt
  · exact lv_tableOut (x := x) hc.1 hc.2.1 d hb h0 (hK σ t lv r (k2 (by omega)) H locs ls hP hS hl)
  · have hlt : (x.toInt - lo).toNat < ts.length := by omega
    have e1 := congrArg (fun z => z[(x.toInt - lo).toNat]?) h2
    simp only [List.getElem?_map, Array.getElem?_toList] at e1
    have e2 : ts[(x.toInt - lo).toNat]? = some ts[(x.toInt - lo).toNat] := List.getElem?_eq_getElem hlt
    rw [e2] at e1
    cases ho : offs[(x.toInt - lo).toNat]? with
    | none => rw [ho] at e1; simp at e1
    | some o =>
      rw [ho] at e1
      simp only [Option.map_some, Option.some.injEq] at e1
      exact lv_tableIn (x := x) hc.1 hc.2.1 d (by omega) (by omega) ho e1 (hK σ _ lv r (k1 _ _ e2 (by omega)) H locs ls hP hS hl)
theorem osw : ∀ (ps : List (Int × Nat)) (t : Nat) {pz : Nat} {qs : List (Int × Int)} {dflt : Int} {cl : mC} {post : mPo} {K : mK} {σ : mS} {lv : mLv} {x : Int32} {r : List mV}, qs.map (fun q => (q.1, (pz : Int) + q.2)) = ps.map (fun q => (q.1, (q.2 : Int))) → (pz : Int) + dflt = (t : Int) → e_lsw ps t cl post K σ lv (.inl x :: r) →
    ∃ (off : Int) (tgt : Nat), Op.lookupswitch.offset qs dflt x.toInt = off ∧ (pz : Int) + off = (tgt : Int) ∧ K σ tgt lv r
  | [], t, pz, qs, dflt, cl, post, K, σ, lv, x, r, hq, h0, h => by
    have : qs = [] := by simpa using hq
    subst this
    exact ⟨dflt, t, rfl, h0, h⟩
  | p :: ps, t, pz, qs, dflt, cl, post, K, σ, lv, x, r, hq, h0, h => by
    cases qs with
    | nil => simp at hq
    | cons q qs =>
      obtain ⟨a, o⟩ := q
      simp only [List.map_cons, List.cons.injEq, Prod.mk.injEq] at hq
      obtain ⟨⟨e1, e2⟩, e3⟩ := hq
      obtain ⟨k1, k2⟩ := h
      by_cases hx : x.toInt = p.1
      · exact ⟨o, p.2, by simp [Op.lookupswitch.offset, hx, e1], e2, k1 hx⟩
      · obtain ⟨off, tgt, g1, g2, g3⟩ := osw ps t (qs := qs) e3 h0 (k2 hx)
        refine ⟨off, tgt, ?_, g2, g3⟩
        rw [← g1]
        have hne : ¬ x.toInt = a := by rw [e1]; exact hx
        simp [Op.lookupswitch.offset, hne, Ne.symm hne]
theorem snd_lsw {dflt : Int} {qs : Array (Int × Int)} {len t : Nat} {ps : List (Int × Nat)} (d : decode cc pc = .ok (.lookupswitch dflt qs, len)) (hp : (qs.toList.zip (qs.toList.drop 1)).all (fun (a, next) => a.1 < next.1) = true) (h0 : (pc : Int) + dflt = (t : Int)) (h2 : qs.toList.map (fun q => (q.1, (pc : Int) + q.2)) = ps.map (fun q => (q.1, (q.2 : Int)))) : Snd cc ws own nL ret R pc (e_lsw ps t) := by
  intro p l e s m args below meth c D cA ad A cl post hc K hK σ lv st h H locs ls hP hS hl
  have hst : ∃ (x : Int32) (r : List mV), st = .inl x :: r := by
    cases ps <;> rcases st with _ | ⟨(x | x | x), r⟩ <;> first | exact False.elim h | exact ⟨x, r, rfl⟩
  obtain ⟨x, r, rfl⟩ := hst
  obtain ⟨off, tgt, g1, g2, g3⟩ := osw ps t h2 h0 h
  exact lv_lookup (x := x) hc.1 hc.2.1 d hp g1 g2 (hK σ tgt lv r g3 H locs ls hP hS hl)
theorem wl_obj {cA : Nat → ClassId} {ad : Nat → Nat → Nat} {σ : mS} {cl : mC} {k i q0 ci : Nat} (h : cl[q0]? = some (k, i)) (hs : sh k = .inl ci) : (wl cA ad σ cl)[q0]? = some (ad k i, .inr (ci, fl ad σ k i (fts ci) 0)) := by
  rw [wl_at h]
  unfold ct
  rw [hs]
theorem wl_arr {cA : Nat → ClassId} {ad : Nat → Nat → Nat} {σ : mS} {cl : mC} {k i q0 t n : Nat} (h : cl[q0]? = some (k, i)) (hs : sh k = .inr (t, n)) : (wl cA ad σ cl)[q0]? = some (ad k i, act cA ad σ k i t n) := by
  rw [wl_at h]
  unfold ct
  rw [hs]
theorem gd {l : List Nat} {f N : Nat} (hN : l.length = N) (hf : f < N) : l[f]? = some (l.getD f 9) := by
  have h : f < l.length := by omega
  simp [List.getD, List.getElem?_eq_getElem h]
theorem snd_getf {ci f index N : Nat} {C : String} {T : u_T} (d : decode cc pc = .ok (.getfield index, 3)) (hC : vwCl[ci]? = some (C, T, N)) (hN : (fts ci).length = N) (hf : f < N) (hin : ∀ w ∈ u_ws C T N, w ∈ ws) (hlk : Cond.fieldLink own index (T f).1 (T f).2.1 (T f).2.2.1 ∈ ws) : Snd cc ws own nL ret R pc (e_getf ci f (pc + 3)) := by
  intro p l e s m args below meth c D cA ad A cl post hc K hK σ lv st h H locs ls hP hS hl
  rcases st with _ | ⟨(x | x | (_ | q)), r⟩ <;> first | exact False.elim h | skip
  simp only [e_getf] at h
  cases ho : sh q.1 with
  | inr o => rw [ho] at h; exact False.elim h
  | inl o =>
    rw [ho] at h
    obtain ⟨e1, hm, h⟩ := beq_of h
    subst e1
    obtain ⟨q0, hq0⟩ := List.getElem?_of_mem hm
    have hq0 : cl[q0]? = some (q.1, q.2) := hq0
    obtain ⟨hx, hb, hml, hown, hts, hKn, hD, hA, hr, hlo⟩ := hc
    have h9 : K σ (pc + 3) lv (mfv σ q.1 q.2 ((fts o).getD f 9) f :: r) := by
      unfold mfv
      split at h
      · obtain ⟨v, rfl, h⟩ := h
        exact h
      · exact h
      · obtain ⟨v, rfl, h⟩ := h
        exact h
    refine va_get (D := D) (ci := o) (v := cv ad (mfv σ q.1 q.2 ((fts o).getD f 9) f)) (C := C) (T := T) (N := N) hx hb hts hin hown hKn hP q0 (wl_obj hq0 ho) hC f hf (hts _ hlk) (fun _ z => z) ?_ d (hK σ (pc + 3) lv _ h9 H locs ls hP hS hl)
    rw [fl_get ad σ q.1 q.2 (fts o) 0 f _ (gd hN hf), fv_eq, Nat.zero_add]
theorem fl_set (ad : Nat → Nat → Nat) (σ τ : mS) (k i : Nat) : ∀ (ts : List Nat) (p n : Nat) (v : Value), (∀ (a t : Nat), ts[a]? = some t → fv ad τ k i t (p + a) = if a = n then v else fv ad σ k i t (p + a)) → (fl ad σ k i ts p).set n v = fl ad τ k i ts p
  | [], _, _, _, _ => rfl
  | t :: r, p, 0, v, h => by
    have h0 := h 0 t rfl
    simp only [if_pos, Nat.add_zero] at h0
    have hr : fl ad σ k i r (p + 1) = fl ad τ k i r (p + 1) := by
      have := fl_set ad σ τ k i r (p + 1) r.length v (fun a t ha => by
        have hlt : a < r.length := (List.getElem?_eq_some_iff.mp ha).1
        have := h (a + 1) t (by simpa using ha)
        rw [if_neg (by omega)] at this
        rw [if_neg (by omega), show p + 1 + a = p + (a + 1) by omega]
        exact this)
      rwa [List.set_eq_of_length_le (by rw [fl_len]; exact Nat.le_refl _)] at this
    simp only [fl, List.set_cons_zero, h0, hr]
  | t :: r, p, n + 1, v, h => by
    have h0 := h 0 t rfl
    rw [if_neg (by omega)] at h0
    simp only [Nat.add_zero] at h0
    have := fl_set ad σ τ k i r (p + 1) n v (fun a t ha => by
      have := h (a + 1) t (by simpa using ha)
      rw [show p + 1 + a = p + (a + 1) by omega, this]
      by_cases hb : a = n
      · rw [if_pos hb, if_pos (by omega)]
      · rw [if_neg hb, if_neg (by omega)])
    simp only [fl, List.set_cons_succ, h0, this]
theorem snd_putI {ci f index N : Nat} {C : String} {T : u_T} {ty0 : Nat → FieldType} (d : decode cc pc = .ok (.putfield index, 3)) (hC : vwCl[ci]? = some (C, T, N)) (hN : (fts ci).length = N) (hf : f < N) (h0 : (fts ci).getD f 9 = 0) (hin : ∀ w ∈ u_ws C T N, w ∈ ws) (hty : ∀ k, k < N → parseFieldDescriptor (T k).2.2.1 = some (ty0 k)) (hnm : ∀ a, a < N → ∀ b, b < N → a ≠ b → (T a).2.1 ≠ (T b).2.1) (hfin : (T f).2.2.2 = false) (hi : ty0 f = .int) (hlk : Cond.fieldLink own index (T f).1 (T f).2.1 (T f).2.2.1 ∈ ws) : Snd cc ws own nL ret R pc (e_putf ci f (pc + 3)) := by
  intro p l e s m args below meth c D cA ad A cl post hc K hK σ lv st h H locs ls hP hS hl
  rcases st with _ | ⟨v, _ | ⟨(x | x | (_ | q)), r⟩⟩ <;> first | exact False.elim h | skip
  simp only [e_putf] at h
  cases ho : sh q.1 with
  | inr o => rw [ho] at h; exact False.elim h
  | inl o =>
    rw [ho] at h
    obtain ⟨e1, h⟩ := beq_of h
    subst e1
    rw [h0] at h
    rcases v with x | x | x <;> first | exact False.elim h | skip
    obtain ⟨hm, h⟩ := h
    obtain ⟨q0, hq0⟩ := List.getElem?_of_mem hm
    have hq0 : cl[q0]? = some (q.1, q.2) := hq0
    obtain ⟨hx, hb, hml, hown, hts, hKn, hD, hA, hr, hlo⟩ := hc
    refine va_put (D := D) (ci := o) (v := .int x) (ty := .int) (C := C) (T := T) (N := N) hx hb hts hin ty0 hty hnm hown hKn hP (hD σ) hS q0 (wl_obj hq0 ho) hC f hf (hts _ hlk) (fun _ z => z) hfin (by rw [hty f hf, hi]) rfl rfl (by rw [fl_len]; omega) d (fun H1 locs1 hP1 _ hS1 => hK _ (pc + 3) lv r h H1 locs1 ls ?_ hS1 hl)
    rw [wl_set (τ := sI σ q.1 q.2 f x) (hD σ) hq0 ?_ (fun a b hab => ct_cong (u3_r σ.1 x hab) rfl rfl)] at hP1
    · exact hP1
    · unfold ct
      rw [ho]
      refine congrArg (fun z => Sum.inr (o, z)) (Eq.symm (fl_set ad σ _ q.1 q.2 (fts o) 0 f (.int x) (fun a t ha => ?_)))
      rw [Nat.zero_add]
      by_cases hb : a = f
      · subst hb
        rw [gd hN hf, h0] at ha
        cases ha
        simp [fv, u3]
      · rw [if_neg hb]
        have e9 := u3_n σ.1 (k := q.1) (i := q.2) (p := f) (a := q.1) (b := q.2) (c := a) x (fun z => hb z.2.2)
        unfold fv
        dsimp only [sI]
        rw [e9]
theorem snd_putZ {ci f index N : Nat} {C : String} {T : u_T} {ty0 : Nat → FieldType} (d : decode cc pc = .ok (.putfield index, 3)) (hC : vwCl[ci]? = some (C, T, N)) (hN : (fts ci).length = N) (hf : f < N) (h0 : (fts ci).getD f 9 = 3) (hin : ∀ w ∈ u_ws C T N, w ∈ ws) (hty : ∀ k, k < N → parseFieldDescriptor (T k).2.2.1 = some (ty0 k)) (hnm : ∀ a, a < N → ∀ b, b < N → a ≠ b → (T a).2.1 ≠ (T b).2.1) (hfin : (T f).2.2.2 = false) (hi : ty0 f = .boolean) (hlk : Cond.fieldLink own index (T f).1 (T f).2.1 (T f).2.2.1 ∈ ws) : Snd cc ws own nL ret R pc (e_putf ci f (pc + 3)) := by
  intro p l e s m args below meth c D cA ad A cl post hc K hK σ lv st h H locs ls hP hS hl
  rcases st with _ | ⟨v, _ | ⟨(x | x | (_ | q)), r⟩⟩ <;> first | exact False.elim h | skip
  simp only [e_putf] at h
  cases ho : sh q.1 with
  | inr o => rw [ho] at h; exact False.elim h
  | inl o =>
    rw [ho] at h
    obtain ⟨e1, h⟩ := beq_of h
    subst e1
    rw [h0] at h
    rcases v with x | x | x <;> first | exact False.elim h | skip
    obtain ⟨hm, hz, h⟩ := h
    obtain ⟨q0, hq0⟩ := List.getElem?_of_mem hm
    have hq0 : cl[q0]? = some (q.1, q.2) := hq0
    obtain ⟨hx, hb, hml, hown, hts, hKn, hD, hA, hr, hlo⟩ := hc
    refine va_put (D := D) (ci := o) (v := .int x) (ty := .boolean) (C := C) (T := T) (N := N) hx hb hts hin ty0 hty hnm hown hKn hP (hD σ) hS q0 (wl_obj hq0 ho) hC f hf (hts _ hlk) (fun _ z => z) hfin (by rw [hty f hf, hi]) (by rcases hz with rfl | rfl <;> rfl) (by rcases hz with rfl | rfl <;> rfl) (by rw [fl_len]; omega) d (fun H1 locs1 hP1 _ hS1 => hK _ (pc + 3) lv r h H1 locs1 ls ?_ hS1 hl)
    rw [wl_set (τ := sI σ q.1 q.2 f x) (hD σ) hq0 ?_ (fun a b hab => ct_cong (u3_r σ.1 x hab) rfl rfl)] at hP1
    · exact hP1
    · unfold ct
      rw [ho]
      refine congrArg (fun z => Sum.inr (o, z)) (Eq.symm (fl_set ad σ _ q.1 q.2 (fts o) 0 f (.int x) (fun a t ha => ?_)))
      rw [Nat.zero_add]
      by_cases hb : a = f
      · subst hb
        rw [gd hN hf, h0] at ha
        cases ha
        simp [fv, u3]
      · rw [if_neg hb]
        have e9 := u3_n σ.1 (k := q.1) (i := q.2) (p := f) (a := q.1) (b := q.2) (c := a) x (fun z => hb z.2.2)
        unfold fv
        dsimp only [sI]
        rw [e9]
theorem snd_putL {ci f index N : Nat} {C : String} {T : u_T} {ty0 : Nat → FieldType} (d : decode cc pc = .ok (.putfield index, 3)) (hC : vwCl[ci]? = some (C, T, N)) (hN : (fts ci).length = N) (hf : f < N) (h0 : (fts ci).getD f 9 = 1) (hin : ∀ w ∈ u_ws C T N, w ∈ ws) (hty : ∀ k, k < N → parseFieldDescriptor (T k).2.2.1 = some (ty0 k)) (hnm : ∀ a, a < N → ∀ b, b < N → a ≠ b → (T a).2.1 ≠ (T b).2.1) (hfin : (T f).2.2.2 = false) (hi : ty0 f = .long) (hlk : Cond.fieldLink own index (T f).1 (T f).2.1 (T f).2.2.1 ∈ ws) : Snd cc ws own nL ret R pc (e_putf ci f (pc + 3)) := by
  intro p l e s m args below meth c D cA ad A cl post hc K hK σ lv st h H locs ls hP hS hl
  rcases st with _ | ⟨v, _ | ⟨(x | x | (_ | q)), r⟩⟩ <;> first | exact False.elim h | skip
  simp only [e_putf] at h
  cases ho : sh q.1 with
  | inr o => rw [ho] at h; exact False.elim h
  | inl o =>
    rw [ho] at h
    obtain ⟨e1, h⟩ := beq_of h
    subst e1
    rw [h0] at h
    rcases v with x | x | x <;> first | exact False.elim h | skip
    obtain ⟨hm, h⟩ := h
    obtain ⟨q0, hq0⟩ := List.getElem?_of_mem hm
    have hq0 : cl[q0]? = some (q.1, q.2) := hq0
    obtain ⟨hx, hb, hml, hown, hts, hKn, hD, hA, hr, hlo⟩ := hc
    refine va_put (D := D) (ci := o) (v := .long x) (ty := .long) (C := C) (T := T) (N := N) hx hb hts hin ty0 hty hnm hown hKn hP (hD σ) hS q0 (wl_obj hq0 ho) hC f hf (hts _ hlk) (fun _ z => z) hfin (by rw [hty f hf, hi]) rfl rfl (by rw [fl_len]; omega) d (fun H1 locs1 hP1 _ hS1 => hK _ (pc + 3) lv r h H1 locs1 ls ?_ hS1 hl)
    rw [wl_set (τ := sL σ q.1 q.2 f x) (hD σ) hq0 ?_ (fun a b hab => ct_cong rfl (u3_r σ.2.1 x hab) rfl)] at hP1
    · exact hP1
    · unfold ct
      rw [ho]
      refine congrArg (fun z => Sum.inr (o, z)) (Eq.symm (fl_set ad σ _ q.1 q.2 (fts o) 0 f (.long x) (fun a t ha => ?_)))
      rw [Nat.zero_add]
      by_cases hb : a = f
      · subst hb
        rw [gd hN hf, h0] at ha
        cases ha
        simp [fv, u3]
      · rw [if_neg hb]
        have e9 := u3_n σ.2.1 (k := q.1) (i := q.2) (p := f) (a := q.1) (b := q.2) (c := a) x (fun z => hb z.2.2)
        unfold fv
        dsimp only [sL]
        rw [e9]
theorem u3_upd (f : Nat → Nat → Nat → Int32) (k i p : Nat) (v : Int32) : u3 f k i p v k i = upd (f k i) p v := by
  funext c
  simp [u3, upd]
theorem u3_updL (f : Nat → Nat → Nat → Int64) (k i p : Nat) (v : Int64) : u3 f k i p v k i = vp_updL (f k i) p v := by
  funext c
  simp [u3, vp_updL]
theorem snd_iald (d : decode cc pc = .ok (.iaload, 1)) : Snd cc ws own nL ret R pc (e_ald 0 (pc + 1)) := by
  intro p l e s m args below meth c D cA ad A cl post hc K hK σ lv st h H locs ls hP hS hl
  rcases st with _ | ⟨(x | x | x), _ | ⟨(y | y | (_ | q)), r⟩⟩ <;> first | exact False.elim h | skip
  simp only [e_ald] at h
  rcases ho : sh q.1 with o | ⟨t, n⟩
  · rw [ho] at h; exact False.elim h
  · rw [ho] at h
    obtain ⟨e1, hm, p9, ⟨hv, rfl⟩, v9, rfl, h9⟩ := beq_of h
    clear h
    dsimp only at e1 hv
    subst e1
    obtain ⟨q0, hq0⟩ := List.getElem?_of_mem hm
    have hq0 : cl[q0]? = some (q.1, q.2) := hq0
    obtain ⟨hx, hb, hml, hown, hts, hKn, hD, hA, hr, hlo⟩ := hc
    exact va_iald hx hb hKn hP q0 0 (wl_arr hq0 ho) rfl hv d (hK σ (pc + 1) lv _ h9 H locs ls hP hS hl)
theorem snd_zald (d : decode cc pc = .ok (.baload, 1)) : Snd cc ws own nL ret R pc (e_ald 3 (pc + 1)) := by
  intro p l e s m args below meth c D cA ad A cl post hc K hK σ lv st h H locs ls hP hS hl
  rcases st with _ | ⟨(x | x | x), _ | ⟨(y | y | (_ | q)), r⟩⟩ <;> first | exact False.elim h | skip
  simp only [e_ald] at h
  rcases ho : sh q.1 with o | ⟨t, n⟩
  · rw [ho] at h; exact False.elim h
  · rw [ho] at h
    obtain ⟨e1, hm, p9, ⟨hv, rfl⟩, v9, rfl, h9⟩ := beq_of h
    clear h
    dsimp only at e1 hv
    subst e1
    obtain ⟨q0, hq0⟩ := List.getElem?_of_mem hm
    have hq0 : cl[q0]? = some (q.1, q.2) := hq0
    obtain ⟨hx, hb, hml, hown, hts, hKn, hD, hA, hr, hlo⟩ := hc
    exact va_zald hx hb hKn hP q0 3 (wl_arr hq0 ho) rfl hv d (hK σ (pc + 1) lv _ h9 H locs ls hP hS hl)
theorem snd_lald (d : decode cc pc = .ok (.laload, 1)) : Snd cc ws own nL ret R pc (e_ald 1 (pc + 1)) := by
  intro p l e s m args below meth c D cA ad A cl post hc K hK σ lv st h H locs ls hP hS hl
  rcases st with _ | ⟨(x | x | x), _ | ⟨(y | y | (_ | q)), r⟩⟩ <;> first | exact False.elim h | skip
  simp only [e_ald] at h
  rcases ho : sh q.1 with o | ⟨t, n⟩
  · rw [ho] at h; exact False.elim h
  · rw [ho] at h
    obtain ⟨e1, hm, p9, ⟨hv, rfl⟩, v9, rfl, h9⟩ := beq_of h
    clear h
    dsimp only at e1 hv
    subst e1
    obtain ⟨q0, hq0⟩ := List.getElem?_of_mem hm
    have hq0 : cl[q0]? = some (q.1, q.2) := hq0
    obtain ⟨hx, hb, hml, hown, hts, hKn, hD, hA, hr, hlo⟩ := hc
    exact va_lald hx hb hKn hP q0 1 (wl_arr hq0 ho) rfl hv d (hK σ (pc + 1) lv _ h9 H locs ls hP hS hl)
theorem snd_aald (d : decode cc pc = .ok (.aaload, 1)) : Snd cc ws own nL ret R pc (e_ald 2 (pc + 1)) := by
  intro p l e s m args below meth c D cA ad A cl post hc K hK σ lv st h H locs ls hP hS hl
  rcases st with _ | ⟨(x | x | x), _ | ⟨(y | y | (_ | q)), r⟩⟩ <;> first | exact False.elim h | skip
  simp only [e_ald] at h
  rcases ho : sh q.1 with o | ⟨t, n⟩
  · rw [ho] at h; exact False.elim h
  · rw [ho] at h
    obtain ⟨e1, hm, p9, ⟨hv, rfl⟩, v9, rfl, h9⟩ := beq_of h
    clear h
    dsimp only at e1 hv
    subst e1
    obtain ⟨q0, hq0⟩ := List.getElem?_of_mem hm
    have hq0 : cl[q0]? = some (q.1, q.2) := hq0
    obtain ⟨hx, hb, hml, hown, hts, hKn, hD, hA, hr, hlo⟩ := hc
    exact va_aldq hx hb hKn hP q0 2 (wl_arr hq0 ho) rfl hv d (hK σ (pc + 1) lv _ h9 H locs ls hP hS hl)
theorem snd_iast (d : decode cc pc = .ok (.iastore, 1)) : Snd cc ws own nL ret R pc (e_ast 0 (pc + 1)) := by
  intro p l e s m args below meth c D cA ad A cl post hc K hK σ lv st h H locs ls hP hS hl
  rcases st with _ | ⟨(v | v | v), _ | ⟨(x | x | x), _ | ⟨(y | y | (_ | q)), r⟩⟩⟩ <;> first | exact False.elim h | skip
  all_goals simp only [e_ast] at h
  all_goals rcases ho : sh q.1 with o | ⟨t, n⟩ <;> rw [ho] at h <;> first | exact False.elim h | skip
  all_goals obtain ⟨e1, h9⟩ := beq_of h
  all_goals clear h
  all_goals first | exact False.elim h9 | skip
  obtain ⟨hm, p9, ⟨hv, rfl⟩, h9⟩ := h9
  dsimp only at e1 hv
  subst e1
  obtain ⟨q0, hq0⟩ := List.getElem?_of_mem hm
  have hq0 : cl[q0]? = some (q.1, q.2) := hq0
  obtain ⟨hx, hb, hml, hown, hts, hKn, hD, hA, hr, hlo⟩ := hc
  refine va_iast hx hb hKn hP (hD σ) hS q0 0 (wl_arr hq0 ho) rfl hv d (fun H1 locs1 hP1 _ hS1 => hK _ (pc + 1) lv r h9 H1 locs1 ls ?_ hS1 hl)
  rw [wl_set (τ := sI σ q.1 q.2 x.toNatClampNeg v) (hD σ) hq0 ?_ (fun a b hab => ct_cong (u3_r σ.1 v hab) rfl rfl)] at hP1
  · exact hP1
  · unfold ct
    rw [ho]
    show act cA ad (sI σ q.1 q.2 x.toNatClampNeg v) q.1 q.2 0 n = _
    exact congrArg (fun z => (Sum.inl (cA 0, n, Sum.inl z) : va_E)) (u3_upd σ.1 q.1 q.2 x.toNatClampNeg v)
theorem snd_zast (d : decode cc pc = .ok (.bastore, 1)) : Snd cc ws own nL ret R pc (e_ast 3 (pc + 1)) := by
  intro p l e s m args below meth c D cA ad A cl post hc K hK σ lv st h H locs ls hP hS hl
  rcases st with _ | ⟨(v | v | v), _ | ⟨(x | x | x), _ | ⟨(y | y | (_ | q)), r⟩⟩⟩ <;> first | exact False.elim h | skip
  all_goals simp only [e_ast] at h
  all_goals rcases ho : sh q.1 with o | ⟨t, n⟩ <;> rw [ho] at h <;> first | exact False.elim h | skip
  all_goals obtain ⟨e1, h9⟩ := beq_of h
  all_goals clear h
  all_goals first | exact False.elim h9 | skip
  obtain ⟨hm, p9, ⟨hv, rfl⟩, hz, h9⟩ := h9
  dsimp only at e1 hv
  subst e1
  obtain ⟨q0, hq0⟩ := List.getElem?_of_mem hm
  have hq0 : cl[q0]? = some (q.1, q.2) := hq0
  obtain ⟨hx, hb, hml, hown, hts, hKn, hD, hA, hr, hlo⟩ := hc
  have hnz : vp_nar .boolean v = v := by rcases hz with rfl | rfl <;> rfl
  refine va_zast hx hb hKn hP (hD σ) hS q0 3 (wl_arr hq0 ho) rfl hv d (fun H1 locs1 hP1 _ hS1 => hK _ (pc + 1) lv r h9 H1 locs1 ls ?_ hS1 hl)
  rw [hnz, wl_set (τ := sI σ q.1 q.2 x.toNatClampNeg v) (hD σ) hq0 ?_ (fun a b hab => ct_cong (u3_r σ.1 v hab) rfl rfl)] at hP1
  · exact hP1
  · unfold ct
    rw [ho]
    show act cA ad (sI σ q.1 q.2 x.toNatClampNeg v) q.1 q.2 3 n = _
    exact congrArg (fun z => (Sum.inl (cA 3, n, Sum.inl z) : va_E)) (u3_upd σ.1 q.1 q.2 x.toNatClampNeg v)
theorem snd_last (d : decode cc pc = .ok (.lastore, 1)) : Snd cc ws own nL ret R pc (e_ast 1 (pc + 1)) := by
  intro p l e s m args below meth c D cA ad A cl post hc K hK σ lv st h H locs ls hP hS hl
  rcases st with _ | ⟨(v | v | v), _ | ⟨(x | x | x), _ | ⟨(y | y | (_ | q)), r⟩⟩⟩ <;> first | exact False.elim h | skip
  all_goals simp only [e_ast] at h
  all_goals rcases ho : sh q.1 with o | ⟨t, n⟩ <;> rw [ho] at h <;> first | exact False.elim h | skip
  all_goals obtain ⟨e1, h9⟩ := beq_of h
  all_goals clear h
  all_goals first | exact False.elim h9 | skip
  obtain ⟨hm, p9, ⟨hv, rfl⟩, h9⟩ := h9
  dsimp only at e1 hv
  subst e1
  obtain ⟨q0, hq0⟩ := List.getElem?_of_mem hm
  have hq0 : cl[q0]? = some (q.1, q.2) := hq0
  obtain ⟨hx, hb, hml, hown, hts, hKn, hD, hA, hr, hlo⟩ := hc
  refine va_last hx hb hKn hP (hD σ) hS q0 1 (wl_arr hq0 ho) rfl hv d (fun H1 locs1 hP1 _ hS1 => hK _ (pc + 1) lv r h9 H1 locs1 ls ?_ hS1 hl)
  rw [wl_set (τ := sL σ q.1 q.2 x.toNatClampNeg v) (hD σ) hq0 ?_ (fun a b hab => ct_cong rfl (u3_r σ.2.1 v hab) rfl)] at hP1
  · exact hP1
  · unfold ct
    rw [ho]
    show act cA ad (sL σ q.1 q.2 x.toNatClampNeg v) q.1 q.2 1 n = _
    exact congrArg (fun z => (Sum.inl (cA 1, n, Sum.inr (Sum.inl z)) : va_E)) (u3_updL σ.2.1 q.1 q.2 x.toNatClampNeg v)
theorem u3_cad (ad : Nat → Nat → Nat) (f : Nat → Nat → Nat → Option (Nat × Nat)) (k i p : Nat) (v : Option (Nat × Nat)) : (fun j => cad ad (u3 f k i p v k i j)) = va_up (fun j => cad ad (f k i j)) p (cad ad v) := by
  funext c
  by_cases h : c = p
  · subst h
    simp [u3, va_up]
  · simp [u3, va_up, h]
theorem snd_aast {TA : u_T} {NA : Nat} (hCA : vwCl[ciA]? = some ("MailYard$Actor", TA, NA)) (d : decode cc pc = .ok (.aastore, 1)) : Snd cc ws own nL ret R pc (e_ast 2 (pc + 1)) := by
  intro p l e s m args below meth c D cA ad A cl post hc K hK σ lv st h H locs ls hP hS hl
  rcases st with _ | ⟨(v | v | (_ | v)), _ | ⟨(x | x | x), _ | ⟨(y | y | (_ | q)), r⟩⟩⟩ <;> first | exact False.elim h | skip
  all_goals simp only [e_ast] at h
  all_goals rcases ho : sh q.1 with o | ⟨t, n⟩ <;> rw [ho] at h <;> first | exact False.elim h | skip
  all_goals obtain ⟨e1, h9⟩ := beq_of h
  all_goals clear h
  all_goals first | exact False.elim h9 | skip
  · obtain ⟨hm, p9, ⟨hv, rfl⟩, h9⟩ := h9
    dsimp only at e1 hv
    subst e1
    obtain ⟨q0, hq0⟩ := List.getElem?_of_mem hm
    have hq0 : cl[q0]? = some (q.1, q.2) := hq0
    obtain ⟨hx, hb, hml, hown, hts, hKn, hD, hA, hr, hlo⟩ := hc
    refine va_astqN hx hb hKn hP (hD σ) hS q0 2 (wl_arr hq0 ho) rfl hv d (fun H1 locs1 hP1 _ hS1 => hK _ (pc + 1) lv r h9 H1 locs1 ls ?_ hS1 hl)
    rw [wl_set (τ := sR σ q.1 q.2 x.toNatClampNeg none) (hD σ) hq0 ?_ (fun a b hab => ct_cong rfl rfl (u3_r σ.2.2 none hab))] at hP1
    · exact hP1
    · unfold ct
      rw [ho]
      show act cA ad (sR σ q.1 q.2 x.toNatClampNeg none) q.1 q.2 2 n = _
      unfold act
      rw [show (fun j => cad ad ((sR σ q.1 q.2 x.toNatClampNeg none).2.2 q.1 q.2 j)) = _ from u3_cad ad σ.2.2 q.1 q.2 x.toNatClampNeg none]
      rfl
  · obtain ⟨hm, p9, ⟨hv, rfl⟩, hw, hwA, h9⟩ := h9
    dsimp only at e1 hv
    subst e1
    obtain ⟨q0, hq0⟩ := List.getElem?_of_mem hm
    have hq0 : cl[q0]? = some (q.1, q.2) := hq0
    obtain ⟨qk, hqk⟩ := List.getElem?_of_mem hw
    have hqk : cl[qk]? = some (v.1, v.2) := hqk
    obtain ⟨hx, hb, hml, hown, hts, hKn, hD, hA, hr, hlo⟩ := hc
    unfold isA at hwA
    rcases hs : sh v.1 with o | o <;> rw [hs] at hwA <;> first | exact False.elim hwA | skip
    obtain ⟨e2, -⟩ := beq_of hwA
    subst e2
    refine va_astq (r := ("MailYard$Actor", TA, NA)) hx hb hKn hP (hD σ) hS q0 2 qk ciA (wl_arr hq0 ho) rfl (wl_obj hqk hs) hCA hv d (fun H1 locs1 hP1 _ hS1 => hK _ (pc + 1) lv r h9 H1 locs1 ls ?_ hS1 hl)
    rw [wl_set (τ := sR σ q.1 q.2 x.toNatClampNeg (some v)) (hD σ) hq0 ?_ (fun a b hab => ct_cong rfl rfl (u3_r σ.2.2 (some v) hab))] at hP1
    · exact hP1
    · unfold ct
      rw [ho]
      show act cA ad (sR σ q.1 q.2 x.toNatClampNeg (some v)) q.1 q.2 2 n = _
      unfold act
      rw [show (fun j => cad ad ((sR σ q.1 q.2 x.toNatClampNeg (some v)).2.2 q.1 q.2 j)) = _ from u3_cad ad σ.2.2 q.1 q.2 x.toNatClampNeg (some v)]
      rfl
theorem snd_alen (d : decode cc pc = .ok (.arraylength, 1)) : Snd cc ws own nL ret R pc (e_alen (pc + 1)) := by
  intro p l e s m args below meth c D cA ad A cl post hc K hK σ lv st h H locs ls hP hS hl
  rcases st with _ | ⟨(x | x | (_ | q)), r⟩ <;> first | exact False.elim h | skip
  simp only [e_alen] at h
  rcases ho : sh q.1 with o | ⟨t, n⟩
  · rw [ho] at h; exact False.elim h
  · rw [ho] at h
    obtain ⟨hm, h9⟩ := h
    obtain ⟨q0, hq0⟩ := List.getElem?_of_mem hm
    have hq0 : cl[q0]? = some (q.1, q.2) := hq0
    obtain ⟨hx, hb, hml, hown, hts, hKn, hD, hA, hr, hlo⟩ := hc
    have ha := wl_arr (cA := cA) (ad := ad) (σ := σ) hq0 ho
    unfold act at ha
    have ht : ∃ (t0 : Nat) (ty : FieldType), (tyA cA)[t0]? = some (cA t, ty) ∨ ¬ t < 4 := by
      by_cases h4 : t < 4
      · rcases (show t = 0 ∨ t = 1 ∨ t = 2 ∨ t = 3 by omega) with rfl | rfl | rfl | rfl
        · exact ⟨0, .int, Or.inl rfl⟩
        · exact ⟨1, .long, Or.inl rfl⟩
        · exact ⟨2, .object "MailYard$Actor", Or.inl rfl⟩
        · exact ⟨3, .boolean, Or.inl rfl⟩
      · exact ⟨0, .int, Or.inr h4⟩
    obtain ⟨t0, ty, ht | ht⟩ := ht
    · exact va_alen hx hb hKn hP q0 t0 ha ht rfl d (hK σ (pc + 1) lv _ h9 H locs ls hP hS hl)
    · exact absurd (sh_ty q.1 t n ho) ht
/-- behind a call -/
theorem run_W {p : Program} {l : Launch} {e : Env} {s : State} {m : MethodId} {args : Array Value} {below : List Frame} {meth : Method} {c : Code} {H : Heap} {locs : List Loc} {Q : State → Prop} {ls : Array Slot} {st0 rest : List Value} {D : va_G} {cA : Nat → ClassId} {ad : Nat → Nat → Nat} {cl : mC} {po : mPo} {A A1 : Nat → Prop} {a : Array Value} {free : Addr → Prop}
    (hr : va_Run p l e R s m args below meth c H locs 0 0 0 0 (F0 m pc ls st0) rest (Qg D cA ad cl po A1 a) free) (hS : va_S A s.heap H locs) (hA : ∀ q, A1 q → A q) (hf : ∀ q, free q → A q)
    (kk : ∀ (r : Option mV) (τ : mS) (H1 : Heap) (locs1 : List Loc), po r τ → va_P D vwCl (wl cA ad τ cl) H1 → va_S A s.heap H1 locs1 → W p l e R s m args below meth c H1 locs1 0 0 Q (F0 m (pc + 3) ls ((r.map (cv ad)).toList ++ rest))) : W p l e R s m args below meth c H locs 0 0 Q (F0 m pc ls st0) := by
  intro T hT X
  obtain ⟨v, st₀, t, T', L, h0, X', hL, e1, e2, ⟨⟨r, u, hv, hp, hb⟩, hz, hk⟩, st⟩ := hr T hT X
  have hv := Outcome.returned.inj hv
  subst hv
  rw [h0] at hz hk
  obtain ⟨t2, a1, b1⟩ := kk r u T'.heap (locs ++ L) hp (by rw [e1]; exact hb)
    ⟨Nat.le_trans hS.1 (by rw [e1]; exact hz), fun q h1 h2 => by rw [e1, hk q (Nat.lt_of_lt_of_le h1 hS.1) (fun z => h2 (hA q z))]; exact hS.2.1 q h1 h2, fun q hq => by
      rcases List.mem_append.mp hq with h | h
      · exact hS.2.2 q h
      · exact hf _ (hL q h)⟩ T' rfl X'
  exact ⟨t2, st t2 a1, b1⟩
theorem few_of {ad : Nat → Nat → Nat} {st : List mV} (h : few st) : (((st.map (cv ad)).map fun v => v.category)).sum ≤ 8 := by
  have e : ((st.map (cv ad)).map fun v => v.category) = st.map cat := by
    rw [List.map_map]
    exact List.map_congr_left (fun v _ => cv_cat ad v)
  rw [e]
  unfold few at h
  cases hb : Nat.ble ((st.map cat).sum) 8 with
  | true => exact Nat.le_of_ble_eq_true hb
  | false => rw [hb] at h; exact False.elim h
theorem to_list_map (ad : Nat → Nat → Nat) (r : Option mV) (t : List mV) : (r.map (cv ad)).toList ++ t.map (cv ad) = (r.toList ++ t).map (cv ad) := by
  cases r <;> simp
theorem A_sub {cA : Nat → ClassId} {ad : Nat → Nat → Nat} {σ : mS} {cl : mC} {A : Nat → Prop} {s : State} {H : Heap} {locs : List Loc} (hD : va_D A (wl cA ad σ cl)) (hA : ∀ q, s.heap.size ≤ q → A q) (hS : va_S A s.heap H locs) : ∀ q, va_A (wl cA ad σ cl) H.size q → A q := by
  rintro q (⟨k, e, hk⟩ | h)
  · exact hD.2 k (q, e) hk
  · exact hA q (Nat.le_trans hS.1 h)
theorem snd_callS {y : MethodName} {ws' : List Cond} {rm : Room} {a index maxL : Nat} {bytes : ByteArray} {rt : Option FieldType} (d : decode cc pc = .ok (.invokestatic index, 3)) (cw : ∀ (s : State) (args : Array Value), (∀ w ∈ ws, w.before args s = true) → CallB R s args own index y bytes maxL rt ws' rm 0 0 a ∧ (Cond.static y).before args s = true) : Snd cc ws own nL ret R pc (e_callS y ws' rm a (pc + 3)) := by
  intro p l e s m args below meth c D cA ad A cl post hc K hK σ lv st h H locs ls hP hS hl
  obtain ⟨h1, h2, po, hM, h⟩ := h
  obtain ⟨hx, hb, hml, hown, hts, hKn, hD, hA, hr, hlo⟩ := hc
  have hle : a ≤ st.length := Nat.le_of_ble_eq_true h2
  have hAs := A_sub (hD σ) hA hS
  refine run_W (rest := (st.drop a).map (cv ad)) (va_runS (As := ((st.take a).reverse).map (cv ad)) (rest := (st.drop a).map (cv ad)) ⟨hx, hb, hml, hown, hts⟩ (hM l D cA ad H.size) (cw s args hts) ⟨fun a U g mk q => ?_, fun U hU hW => ?_⟩ rfl ?_ hl.1 ?_ (lv_room (few_of h1)) d ⟨Nat.zero_le _, Nat.zero_le _⟩) hS hAs hAs (fun r τ H1 locs1 hp hP1 hS1 => ?_)
  · obtain ⟨q0, q1, qP, qK, qD⟩ := q
    exact ⟨q0, q1, qP, va_K.moved (u := U) (U := U.calling g mk a) (Vm.Alike.refl U.vm) qK, qD⟩
  · exact ⟨rfl, by rw [hU], by rw [hU]; exact hP, va_K.moved hW.alike hKn, (hD σ).weaken (fun _ _ _ _ => trivial)⟩
  · simp [hle]
  · show st.map (cv ad) = _
    rw [← List.map_reverse, List.reverse_reverse, ← List.map_append, List.take_append_drop]
  · rw [to_list_map]
    exact hK τ (pc + 3) lv _ (h r τ hp) H1 locs1 ls hP1 hS1 hl
theorem snd_callV {y : MethodName} {ws' : List Cond} {rm : Room} {ci a index maxL N : Nat} {bytes : ByteArray} {rt : Option FieldType} {C : String} {T : u_T} (hC : vwCl[ci]? = some (C, T, N)) (d : decode cc pc = .ok (.invokevirtual index, 3)) (cw : ∀ (s : State) (args : Array Value), (∀ w ∈ ws, w.before args s = true) → CallW R s args own C index y bytes maxL rt ws' rm 0 0 a) : Snd cc ws own nL ret R pc (e_callV y ws' rm ci a (pc + 3)) := by
  intro p l e s m args below meth c D cA ad A cl post hc K hK σ lv st h H locs ls hP hS hl
  obtain ⟨h1, h2, po, hM, h⟩ := h
  obtain ⟨hx, hb, hml, hown, hts, hKn, hD, hA, hr, hlo⟩ := hc
  have hAs := A_sub (hD σ) hA hS
  rcases hd : st.drop a with _ | ⟨(x | x | (_ | q)), r0⟩ <;> rw [hd] at h2 <;> first | exact False.elim h2 | skip
  obtain ⟨hm, h2⟩ := h2
  rcases hs : sh q.1 with o | o <;> rw [hs] at h2 <;> first | exact False.elim h2 | skip
  obtain ⟨e1, -⟩ := beq_of h2
  subst e1
  obtain ⟨q0, hq0⟩ := List.getElem?_of_mem hm
  have hq0 : cl[q0]? = some (q.1, q.2) := hq0
  have hlt : a < st.length := by
    have := congrArg List.length hd
    simp at this
    omega
  have ha : st[a]? = some (.inr (.inr (some q))) := by
    have := congrArg (fun z => z[0]?) hd
    simpa using this
  have ht : st.take (a + 1) = st.take a ++ [.inr (.inr (some q))] := by
    rw [List.take_succ, ha]
    rfl
  have hdr : st.drop (a + 1) = r0 := by
    rw [← List.drop_drop, hd]
    rfl
  rw [ht, List.reverse_append] at hM
  rw [hdr] at h1 h
  refine run_W (rest := r0.map (cv ad)) (va_runV (As := ((st.take a).reverse).map (cv ad)) (rest := r0.map (cv ad)) (b := ad q.1 q.2) ⟨hx, hb, hml, hown, hts⟩ (hM l D cA ad H.size) (cw s args hts) ⟨fun a U g mk q => ?_, va_recv hKn hP hC (wl_obj hq0 hs), fun U hU hW => ?_⟩ rfl ?_ hl.1 ?_ (lv_room (few_of h1)) d ⟨Nat.zero_le _, Nat.zero_le _⟩) hS hAs hAs (fun r τ H1 locs1 hp hP1 hS1 => ?_)
  · obtain ⟨q0, q1, qP, qK, qD⟩ := q
    exact ⟨q0, q1, qP, va_K.moved (u := U) (U := U.calling g mk a) (Vm.Alike.refl U.vm) qK, qD⟩
  · exact ⟨rfl, by rw [hU], by rw [hU]; exact hP, va_K.moved hW.alike hKn, (hD σ).weaken (fun _ _ _ _ => trivial)⟩
  · simp
    omega
  · show st.map (cv ad) = _
    rw [← List.map_reverse, List.reverse_reverse]
    have e2 : st = st.take a ++ (.inr (.inr (some q)) :: r0) := by
      rw [← hd, List.take_append_drop]
    exact (congrArg (List.map (cv ad)) e2).trans (by rw [List.map_append]; rfl)
  · rw [to_list_map]
    exact hK τ (pc + 3) lv _ (h r τ hp) H1 locs1 ls hP1 hS1 hl
theorem snd_iret (d : decode cc pc = .ok (.ireturn, 1)) : Snd cc ws own nL (some .int) R pc e_iret := by
  intro p l e s m args below meth c D cA ad A cl post hc K hK σ lv st h H locs ls hP hS hl
  rcases st with _ | ⟨(x | x | x), _ | ⟨z, r⟩⟩ <;> first | exact False.elim h | skip
  obtain ⟨hx, hb, hml, hown, hts, hKn, hD, hA, hr, hlo⟩ := hc
  exact W.iret (v := x) hx hb hr (fun t ht hW => ⟨⟨some (.inl x), σ, rfl, h, by rw [ht]; exact hP⟩, hS.F ht⟩) hS.2.2 d hlo
theorem snd_zret (d : decode cc pc = .ok (.ireturn, 1)) : Snd cc ws own nL (some .boolean) R pc e_zret := by
  intro p l e s m args below meth c D cA ad A cl post hc K hK σ lv st h H locs ls hP hS hl
  rcases st with _ | ⟨(x | x | x), _ | ⟨z, r⟩⟩ <;> first | exact False.elim h | skip
  obtain ⟨hz, h⟩ := h
  obtain ⟨hx, hb, hml, hown, hts, hKn, hD, hA, hr, hlo⟩ := hc
  exact W.zret (v := x) hx hb hr (by rcases hz with rfl | rfl <;> rfl) (fun t ht hW => ⟨⟨some (.inl x), σ, rfl, h, by rw [ht]; exact hP⟩, hS.F ht⟩) hS.2.2 d hlo
theorem snd_vret (d : decode cc pc = .ok (.return_, 1)) : Snd cc ws own nL none R pc e_vret := by
  intro p l e s m args below meth c D cA ad A cl post hc K hK σ lv st h H locs ls hP hS hl
  rcases st with _ | ⟨z, r⟩ <;> first | exact False.elim h | skip
  obtain ⟨hx, hb, hml, hown, hts, hKn, hD, hA, hr, hlo⟩ := hc
  exact W.vret hx hb hr (fun t ht hW => ⟨⟨none, σ, rfl, h, by rw [ht]; exact hP⟩, hS.F ht⟩) hS.2.2 d hlo
theorem snd_aret {C : String} (d : decode cc pc = .ok (.areturn, 1)) : Snd cc ws own nL (some (.object C)) R pc e_aret := by
  intro p l e s m args below meth c D cA ad A cl post hc K hK σ lv st h H locs ls hP hS hl
  rcases st with _ | ⟨(x | x | x), _ | ⟨z, r⟩⟩ <;> first | exact False.elim h | skip
  obtain ⟨hx, hb, hml, hown, hts, hKn, hD, hA, hr, hlo⟩ := hc
  exact W.aret (v := va_rf (cad ad x)) hx hb hr (Or.inl ⟨_, rfl⟩) (va_rf_or _) (fun t ht hW => ⟨⟨some (.inr (.inr x)), σ, rfl, h, by rw [ht]; exact hP⟩, hS.F ht⟩) hS.2.2 d hlo
theorem snd_copyL {index : Nat} (d : decode cc pc = .ok (.invokestatic index, 3)) (hlk : Cond.methodLink own index arraycopyName ∈ ws) (hnat : Cond.native arraycopyName ∈ ws) (hst : Cond.static arraycopyName ∈ ws) (hini : Cond.initialized "java/lang/System" ∈ ws) (hfr : 1 ≤ R.frames) (hlc : nativeFrameWords "java/lang/System" "arraycopy" 5 + 11 ≤ R.locals) : Snd cc ws own nL ret R pc (e_copyL (pc + 3)) := by
  intro p l e s m args below meth c D cA ad A cl post hc K hK σ lv st h H locs ls hP hS hl
  rcases st with _ | ⟨(w | w | w), _ | ⟨(dp | dp | dp), _ | ⟨(y | y | (_ | q1)), _ | ⟨(sp | sp | sp), _ | ⟨(z | z | (_ | q0)), _ | ⟨zz, r⟩⟩⟩⟩⟩⟩ <;> first | exact False.elim h | skip
  simp only [e_copyL] at h
  rcases ho : sh q0.1 with o | ⟨t0, n0⟩ <;> rw [ho] at h <;> first | exact False.elim h | skip
  rcases ho1 : sh q1.1 with o1 | ⟨t1, n1⟩ <;> rw [ho1] at h <;> first | exact False.elim h | skip
  obtain ⟨e0, e1, hm0, hm1, g1, g2, g3, g4, g5, h9⟩ := cat2 h
  clear h
  dsimp only at e0 e1 g4 g5
  subst e0 e1
  obtain ⟨i0, hi0⟩ := List.getElem?_of_mem hm0
  have hi0 : cl[i0]? = some (q0.1, q0.2) := hi0
  obtain ⟨i1, hi1⟩ := List.getElem?_of_mem hm1
  have hi1 : cl[i1]? = some (q1.1, q1.2) := hi1
  obtain ⟨hx, hb, hml, hown, hts, hKn, hD, hA, hr, hlo⟩ := hc
  refine va_copyl (ty := .long) (rest := []) hx hb (hml.trans hl.1.symm) hown (hts _ hlk) (hts _ hnat) (hts _ hst) (hts _ hini) hKn hP (hD σ) hS i0 i1 1 1 (wl_arr hi0 ho) (wl_arr hi1 ho1) rfl rfl rfl g1 g2 g3 g4 g5 (fun _ _ => rfl) hfr (by simpa using hlc) d (fun H1 locs1 hP1 _ hS1 => hK _ (pc + 3) lv [] h9 H1 locs1 ls ?_ hS1 hl)
  rw [wl_set (τ := sLf σ q1.1 q1.2 (va_cpy (σ.2.1 q0.1 q0.2) (σ.2.1 q1.1 q1.2) sp.toNatClampNeg dp.toNatClampNeg w.toNatClampNeg)) (hD σ) hi1 ?_ (fun a b hab => ct_cong rfl (by simp [hab]) rfl)] at hP1
  · exact hP1
  · unfold ct
    rw [ho1]
    show act cA ad _ q1.1 q1.2 1 n1 = _
    unfold act
    simp
end SN2
