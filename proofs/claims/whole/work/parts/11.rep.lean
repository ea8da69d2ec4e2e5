/-! The class's memory holds a yard -/
def idS (σ : mS) (i : Nat) : Int32 := σ.1 5 i 4
def cT (t : mT) : Int32 × Int × Int32 × Bool := (t.1, t.2.1.toInt, t.2.2.1, t.2.2.2)
def AcF (σ : mS) (y : Yd) (i : Nat) : Prop :=
  σ.1 5 i 5 = yF y 0 (idS σ i) ∧ σ.1 5 i 6 = yF y 1 (idS σ i) ∧ σ.1 5 i 7 = yF y 2 (idS σ i) ∧ σ.1 5 i 8 = yF y 3 (idS σ i) ∧ σ.1 5 i 11 = yF y 4 (idS σ i) ∧ σ.1 5 i 12 = yF y 5 (idS σ i) ∧ σ.1 5 i 9 = bI (yB y 0 (idS σ i)) ∧ σ.1 5 i 10 = bI (yB y 1 (idS σ i)) ∧ ∀ r, r < 4 → σ.1 6 i r = yF y (8 + r) (idS σ i)
def AcH (σ : mS) (y : Yd) (i : Nat) : Prop := (σ.2.1 7 i 0).toInt = (yH y (idS σ i)).1 ∧ (σ.2.1 7 i 1).toInt = (yH y (idS σ i)).2.1 ∧ (σ.2.1 7 i 2).toInt = (yH y (idS σ i)).2.2
def vS (m : Int32 × Int32 × Int32) : Int32 × Int32 := (m.2.2, m.2.1)
def AcM (σ : mS) (y : Yd) (i : Nat) : Prop := MbIs σ i ((mbx y (idS σ i)).map vS)
def LkI (σ : mS) (y : Yd) (al : List Nat) (g : Nat → Int32 → Bool) : Prop := ∀ i ∈ al, ∀ j, j < 8 → (j ∈ al → lb (σ.1 5 i 14) j = lkd y (idS σ i) (idS σ j)) ∧ (¬ j ∈ al → lb (σ.1 5 i 14) j = g j (idS σ i))
def ScI (σ : mS) (y : Yd) : Prop := (σ.2.1 0 0 7).toInt = (yN y : Int) ∧ σ.1 0 0 8 = nI (yR y) ∧ σ.1 0 0 9 = yX y ∧ σ.1 0 0 10 = yL y
def CoI (σ : mS) (y : Yd) : Prop := ∀ k, k < 3 → ∀ c, c < 48 → σ.1 2 k c = yC y k c
def SlI (σ : mS) (sp : List Nat) : Prop := (∀ i, i < 8 → σ.1 5 i 0 = nI i) ∧ ∀ i ∈ sp, MbIs σ i []
def RCw (σ : mS) (y : Yd) (al sp rd en : List Nat) (ts : List mT) (g : Nat → Int32 → Bool) : Prop :=
  (LnIs σ 0 al ∧ LnIs σ 1 sp ∧ LnIs σ 2 rd ∧ LnIs σ 3 en) ∧ ((al ++ sp).Nodup ∧ (al ++ sp).length = 8 ∧ (∀ i ∈ rd, i ∈ al) ∧ ∀ i ∈ en, i ∈ al) ∧
  (al.map (idS σ) = yA y ∧ rd.map (idS σ) = yQ y ∧ en.map (fun i => (idS σ i, σ.1 5 i 13)) = yE y) ∧ (∀ i ∈ al, AcF σ y i ∧ AcH σ y i ∧ AcM σ y i) ∧ LkI σ y al g ∧
  (TmIs σ ts ∧ ts.map cT = yT y) ∧ OutIs σ (yO y) ∧ CoI σ y ∧ ScI σ y ∧ SlI σ sp
/-- a yard as it should be -/
def Srt (y : Yd) : Prop := (yA y).Pairwise (· < ·)
def InvQ (y : Yd) : Prop := Srt y ∧ (yQ y).Nodup ∧ (∀ i ∈ yQ y, i ∈ yA y) ∧ ∀ i ∈ yA y, (yB y 1 i = true ↔ ¬ i ∈ yQ y)
def InvT (y : Yd) : Prop := ∀ i, ((yT y).filter (fun t => t.1 == i && t.2.2.2)).length ≤ 1
def InvR (y : Yd) : Prop := (yM y).length + (yK y).length + yR y = 24
section REP
variable {σ : mS} {y : Yd} {al sp rd en : List Nat} {ts : List mT} {g : Nat → Int32 → Bool}
theorem RCw.lt8 (h : RCw σ y al sp rd en ts g) {i : Nat} (hi : i ∈ al) : i < 8 := by
  obtain ⟨p, hp⟩ := List.getElem?_of_mem hi
  exact (h.1.1.2.2 p i hp).2
theorem RCw.sp8 (h : RCw σ y al sp rd en ts g) {i : Nat} (hi : i ∈ sp) : i < 8 := by
  obtain ⟨p, hp⟩ := List.getElem?_of_mem hi
  exact (h.1.2.1.2.2 p i hp).2
theorem RCw.ndA (h : RCw σ y al sp rd en ts g) : al.Nodup := (List.nodup_append.mp h.2.1.1).1
theorem nd_map {α β : Type} {f : α → β} : ∀ {l : List α}, (l.map f).Nodup → ∀ a ∈ l, ∀ b ∈ l, f a = f b → a = b
  | [], _, a, ha, _, _, _ => by simp at ha
  | c :: l, h, a, ha, b, hb, e => by
    rw [List.map_cons, List.nodup_cons] at h
    rcases List.mem_cons.mp ha with e1 | ha' <;> rcases List.mem_cons.mp hb with e2 | hb'
    · rw [e1, e2]
    · exact absurd (List.mem_map.mpr ⟨b, hb', by rw [← e, e1]⟩) h.1
    · exact absurd (List.mem_map.mpr ⟨a, ha', by rw [e, e2]⟩) h.1
    · exact nd_map h.2 a ha' b hb' e
theorem pw_nd {l : List Int32} (h : l.Pairwise (· < ·)) : l.Nodup := h.imp (fun {a b} hab e => by subst e; exact Int32.lt_irrefl hab)
theorem RCw.inj (h : RCw σ y al sp rd en ts g) (q : Srt y) {i k : Nat} (hi : i ∈ al) (hk : k ∈ al) (e : idS σ i = idS σ k) : i = k :=
  nd_map (by rw [h.2.2.1.1]; exact pw_nd q) i hi k hk e
theorem RCw.mA (h : RCw σ y al sp rd en ts g) {i : Nat} (hi : i ∈ al) : idS σ i ∈ yA y := by
  rw [← h.2.2.1.1]
  exact List.mem_map.mpr ⟨i, hi, rfl⟩
theorem RCw.mQ (h : RCw σ y al sp rd en ts g) (q : Srt y) {i : Nat} (hi : i ∈ al) : idS σ i ∈ yQ y ↔ i ∈ rd := by
  rw [← h.2.2.1.2.1, List.mem_map]
  constructor
  · rintro ⟨k, hk, e⟩
    rw [← h.inj q (h.2.1.2.2.1 k hk) hi e]
    exact hk
  · exact fun z => ⟨i, z, rfl⟩
theorem nd_sub_len {l m : List Nat} (h : l.Nodup) (hs : ∀ i ∈ l, i ∈ m) : l.length ≤ m.length := by
  induction l generalizing m with
  | nil => simp
  | cons a l ih =>
    rw [List.nodup_cons] at h
    have ha : a ∈ m := hs a List.mem_cons_self
    have := ih h.2 (m := m.erase a) (fun i hi => (List.mem_erase_of_ne (fun e => by subst e; exact h.1 hi)).mpr (hs i (List.mem_cons_of_mem _ hi)))
    rw [List.length_erase_of_mem ha] at this
    have : 0 < m.length := List.length_pos_of_mem ha
    simp
    omega
theorem RCw.ndR (h : RCw σ y al sp rd en ts g) (q : (yQ y).Nodup) : rd.Nodup := by
  have h1 : (rd.map (idS σ)).Nodup := by rw [h.2.2.1.2.1]; exact q
  exact List.Pairwise.of_map (idS σ) (fun _ _ z e => z (by rw [e])) h1
/-- room in the queue for one who isn't in it -/
theorem RCw.rd7 (h : RCw σ y al sp rd en ts g) (q : (yQ y).Nodup) {i : Nat} (hi : i ∈ al) (hn : ¬ i ∈ rd) : rd.length < 8 := by
  have h1 : (i :: rd).length ≤ al.length := nd_sub_len (List.nodup_cons.mpr ⟨hn, h.ndR q⟩) (fun k hk => by
    rcases List.mem_cons.mp hk with rfl | hk
    · exact hi
    · exact h.2.1.2.2.1 k hk)
  have := h.1.1.2.1
  simp at h1
  omega
theorem RCw.find (h : RCw σ y al sp rd en ts g) (v : Int32) : (∃ i, al.find? (fun i => σ.1 5 i 4 == v) = some i ∧ i ∈ al ∧ idS σ i = v ∧ v ∈ yA y) ∨ (al.find? (fun i => σ.1 5 i 4 == v) = none ∧ ¬ v ∈ yA y) := by
  cases hf : al.find? (fun i => σ.1 5 i 4 == v) with
  | some i =>
    have h1 := List.mem_of_find?_eq_some hf
    have h2 := List.find?_some hf
    have h3 : idS σ i = v := eq_of_beq h2
    exact Or.inl ⟨i, rfl, h1, h3, by rw [← h3]; exact h.mA h1⟩
  | none =>
    refine Or.inr ⟨rfl, fun hv => ?_⟩
    rw [← h.2.2.1.1] at hv
    obtain ⟨k, hk, e⟩ := List.mem_map.mp hv
    have := List.find?_eq_none.mp hf k hk
    exact this (beq_iff_eq.mpr e)
/-! one step of the memory, one of the yard -/
theorem RCw.free (h : RCw σ y al sp rd en ts g) (n : Nat) : RCw (sI σ 0 0 8 (nI n)) (vR y n) al sp rd en ts g :=
  ⟨h.1, h.2.1, h.2.2.1, h.2.2.2.1, h.2.2.2.2.1, h.2.2.2.2.2.1, h.2.2.2.2.2.2.1, h.2.2.2.2.2.2.2.1, ⟨h.2.2.2.2.2.2.2.2.1.1, rfl, h.2.2.2.2.2.2.2.2.1.2.2.1, h.2.2.2.2.2.2.2.2.1.2.2.2⟩, h.2.2.2.2.2.2.2.2.2⟩
theorem RCw.lost (h : RCw σ y al sp rd en ts g) (v : Int32) : RCw (sI σ 0 0 9 v) (vX y v) al sp rd en ts g :=
  ⟨h.1, h.2.1, h.2.2.1, h.2.2.2.1, h.2.2.2.2.1, h.2.2.2.2.2.1, h.2.2.2.2.2.2.1, h.2.2.2.2.2.2.2.1, ⟨h.2.2.2.2.2.2.2.2.1.1, h.2.2.2.2.2.2.2.2.1.2.1, rfl, h.2.2.2.2.2.2.2.2.1.2.2.2⟩, h.2.2.2.2.2.2.2.2.2⟩
/-- a step that leaves scalars, code and actors (but mailboxes) alone -/
theorem RCw.gen (h : RCw σ y al sp rd en ts g) {P : Nat → Nat → Prop} {τ : mS} (c : Ch P σ τ) (hP : ∀ k i, (k = 0 ∨ k = 2 ∨ k = 5 ∨ k = 6 ∨ k = 7) → ¬ P k i) {y' : Yd} {rd' en' : List Nat} {ts' : List mT}
    (eF : yF y' = yF y) (eB : yB y' = yB y) (eH : yH y' = yH y) (eA : yA y' = yA y) (eK : yK y' = yK y) (eC : yC y' = yC y) (eN : yN y' = yN y) (eR : yR y' = yR y) (eX : yX y' = yX y) (eL : yL y' = yL y)
    (l0 : LnIs τ 0 al) (l1 : LnIs τ 1 sp) (l2 : LnIs τ 2 rd') (l3 : LnIs τ 3 en') (hr : ∀ i ∈ rd', i ∈ al) (he : ∀ i ∈ en', i ∈ al) (q2 : rd'.map (idS σ) = yQ y') (q3 : en'.map (fun i => (idS σ i, σ.1 5 i 13)) = yE y')
    (mb : ∀ i ∈ al, MbIs τ i ((mbx y' (idS σ i)).map vS)) (tm : TmIs τ ts') (tmy : ts'.map cT = yT y') (ou : OutIs τ (yO y')) (sm : ∀ i ∈ sp, MbIs τ i []) : RCw τ y' al sp rd' en' ts' g := by
  have e5 : ∀ i, τ.1 5 i = σ.1 5 i := fun i => (c 5 i (hP 5 i (by omega))).1
  have eid : idS τ = idS σ := by funext i; unfold idS; rw [e5]
  obtain ⟨h1, h2, h3, h4, h5, h6, h7, h8, h9, h10⟩ := h
  refine ⟨⟨l0, l1, l2, l3⟩, ⟨h2.1, h2.2.1, hr, he⟩, ⟨by rw [eid, eA]; exact h3.1, by rw [eid]; exact q2, ?_⟩, fun i hi => ?_, ?_, ⟨tm, tmy⟩, ou, fun k hk a ha => ?_, ?_, fun i hi => ?_, sm⟩
  · rw [eid]
    simp only [e5]
    exact q3
  · obtain ⟨f, m, b⟩ := h4 i hi
    have e6 := (c 6 i (hP 6 i (by omega))).1
    have e7 := (c 7 i (hP 7 i (by omega))).2.1
    unfold AcF AcH AcM at *
    rw [eid, e5, e6, e7, eF, eB, eH]
    exact ⟨f, m, mb i hi⟩
  · unfold LkI lkd at *
    rw [eid, eK]
    simp only [e5]
    exact h5
  · rw [(c 2 k (hP 2 k (by omega))).1, eC]
    exact h8 k hk a ha
  · unfold ScI at *
    have z := c 0 0 (hP 0 0 (by omega))
    rw [z.1, z.2.1, eN, eR, eX, eL]
    exact h9
  · rw [e5]
    exact h10.1 i hi
theorem RCw.queue (h : RCw σ y al sp rd en ts g) {τ : mS} (c : Ch (pLn 2) σ τ) {rd' : List Nat} (hl : LnIs τ 2 rd') (hs : ∀ i ∈ rd', i ∈ al) : RCw τ (vQ y (rd'.map (idS σ))) al sp rd' en ts g :=
  h.gen c (fun k i z w => by omega) rfl rfl rfl rfl rfl rfl rfl rfl rfl rfl (h.1.1.ch c (by omega) (by omega)) (h.1.2.1.ch c (by omega) (by omega)) hl (h.1.2.2.2.ch c (by omega) (by omega)) hs h.2.1.2.2.2 rfl h.2.2.1.2.2
    (fun i hi => (h.2.2.2.1 i hi).2.2.ch c (by omega) (by omega) (by omega)) (h.2.2.2.2.2.1.1.ch c (by omega) (by omega) (by omega) (by omega) (by omega)) h.2.2.2.2.2.1.2 (h.2.2.2.2.2.2.1.ch c (by omega) (by omega) (by omega))
    (fun k hk => (h.2.2.2.2.2.2.2.2.2.2 k hk).ch c (by omega) (by omega) (by omega))
theorem RCw.ends (h : RCw σ y al sp rd en ts g) {τ : mS} (c : Ch (pLn 3) σ τ) {en' : List Nat} (hl : LnIs τ 3 en') (hs : ∀ i ∈ en', i ∈ al) : RCw τ (vE y (en'.map (fun i => (idS σ i, σ.1 5 i 13)))) al sp rd en' ts g :=
  h.gen c (fun k i z w => by omega) rfl rfl rfl rfl rfl rfl rfl rfl rfl rfl (h.1.1.ch c (by omega) (by omega)) (h.1.2.1.ch c (by omega) (by omega)) (h.1.2.2.1.ch c (by omega) (by omega)) hl h.2.1.2.2.1 hs h.2.2.1.2.1 rfl
    (fun i hi => (h.2.2.2.1 i hi).2.2.ch c (by omega) (by omega) (by omega)) (h.2.2.2.2.2.1.1.ch c (by omega) (by omega) (by omega) (by omega) (by omega)) h.2.2.2.2.2.1.2 (h.2.2.2.2.2.2.1.ch c (by omega) (by omega) (by omega))
    (fun k hk => (h.2.2.2.2.2.2.2.2.2.2 k hk).ch c (by omega) (by omega) (by omega))
theorem RCw.timers (h : RCw σ y al sp rd en ts g) {τ : mS} (c : Ch pTm σ τ) {ts' : List mT} (ht : TmIs τ ts') : RCw τ (vT y (ts'.map cT)) al sp rd en ts' g :=
  h.gen c (fun k i z w => by omega) rfl rfl rfl rfl rfl rfl rfl rfl rfl rfl (h.1.1.ch c (by omega) (by omega)) (h.1.2.1.ch c (by omega) (by omega)) (h.1.2.2.1.ch c (by omega) (by omega)) (h.1.2.2.2.ch c (by omega) (by omega)) h.2.1.2.2.1 h.2.1.2.2.2 h.2.2.1.2.1 h.2.2.1.2.2
    (fun i hi => (h.2.2.2.1 i hi).2.2.ch c (by omega) (by omega) (by omega)) ht rfl (h.2.2.2.2.2.2.1.ch c (by omega) (by omega) (by omega))
    (fun k hk => (h.2.2.2.2.2.2.2.2.2.2 k hk).ch c (by omega) (by omega) (by omega))
theorem RCw.outs (h : RCw σ y al sp rd en ts g) {τ : mS} (c : Ch pOut σ τ) {os : List (Int32 × Int32)} (ht : OutIs τ os) : RCw τ (vO y os) al sp rd en ts g :=
  h.gen c (fun k i z w => by omega) rfl rfl rfl rfl rfl rfl rfl rfl rfl rfl (h.1.1.ch c (by omega) (by omega)) (h.1.2.1.ch c (by omega) (by omega)) (h.1.2.2.1.ch c (by omega) (by omega)) (h.1.2.2.2.ch c (by omega) (by omega)) h.2.1.2.2.1 h.2.1.2.2.2 h.2.2.1.2.1 h.2.2.1.2.2
    (fun i hi => (h.2.2.2.1 i hi).2.2.ch c (by omega) (by omega) (by omega)) (h.2.2.2.2.2.1.1.ch c (by omega) (by omega) (by omega) (by omega) (by omega)) h.2.2.2.2.2.1.2 ht
    (fun k hk => (h.2.2.2.2.2.2.2.2.2.2 k hk).ch c (by omega) (by omega) (by omega))
/-- the mailbox of one actor; the others' messages stay -/
theorem RCw.mail (h : RCw σ y al sp rd en ts g) (q : Srt y) {τ : mS} {i : Nat} (hi : i ∈ al) (c : Ch (pMb i) σ τ) {M : List (Int32 × Int32 × Int32)} (hm : MbIs τ i ((mbx (vM y M) (idS σ i)).map vS)) (ho : ∀ x, ¬ x = idS σ i → mbx (vM y M) x = mbx y x) (hsp : ∀ k ∈ sp, ¬ k = i) : RCw τ (vM y M) al sp rd en ts g :=
  h.gen c (fun k i z w => by omega) rfl rfl rfl rfl rfl rfl rfl rfl rfl rfl (h.1.1.ch c (by omega) (by omega)) (h.1.2.1.ch c (by omega) (by omega)) (h.1.2.2.1.ch c (by omega) (by omega)) (h.1.2.2.2.ch c (by omega) (by omega)) h.2.1.2.2.1 h.2.1.2.2.2 h.2.2.1.2.1 h.2.2.1.2.2
    (fun k hk => by
      by_cases e : k = i
      · subst e
        exact hm
      · rw [ho _ (fun z => e (h.inj q hk hi z))]
        exact (h.2.2.2.1 k hk).2.2.ch c (by omega) (by omega) (by omega)) (h.2.2.2.2.2.1.1.ch c (by omega) (by omega) (by omega) (by omega) (by omega)) h.2.2.2.2.2.1.2 (h.2.2.2.2.2.2.1.ch c (by omega) (by omega) (by omega))
    (fun k hk => (h.2.2.2.2.2.2.2.2.2.2 k hk).ch c (fun z => hsp k hk z.2) (fun z => hsp k hk z.2) (fun z => hsp k hk z.2))
theorem u3_other {f : Nat → Nat → Nat → Int32} {k i p b c : Nat} {v : Int32} (h : ¬ b = i) : u3 f k i p v k b c = f k b c := u3_n f v (fun z => h z.2.1)
theorem up2_s {α : Type} (f : Nat → Int32 → α) (n : Nat) (k : Int32) (v : α) : up2 f n k v n k = v := by simp [up2]
theorem up2_o {α : Type} {f : Nat → Int32 → α} {n : Nat} {k j : Int32} {v : α} (h : ¬ j = k) : up2 f n k v n j = f n j := by simp [up2, h]
/-- a number of an actor -/
theorem RCw.cell (h : RCw σ y al sp rd en ts g) (q : Srt y) {i : Nat} (hi : i ∈ al) (v : Int32) : RCw (sI σ 5 i 8 v) (setF y 3 (idS σ i) v) al sp rd en ts g := by
  refine ⟨h.1, h.2.1, h.2.2.1, fun k hk => ⟨?_, (h.2.2.2.1 k hk).2.1, (h.2.2.2.1 k hk).2.2⟩, h.2.2.2.2.1, h.2.2.2.2.2.1, h.2.2.2.2.2.2.1, h.2.2.2.2.2.2.2.1, h.2.2.2.2.2.2.2.2.1, h.2.2.2.2.2.2.2.2.2⟩
  obtain ⟨f0, f1, f2, f3, f4, f5, b0, b1, rr⟩ := (h.2.2.2.1 k hk).1
  refine ⟨f0, f1, f2, ?_, f4, f5, b0, b1, fun r hr => ?_⟩
  · show u3 σ.1 5 i 8 v 5 k 8 = up2 (yF y) 3 (idS σ i) v 3 (idS σ k)
    by_cases e : k = i
    · subst e
      rw [u3_s, up2_s]
    · rw [u3_other e, up2_o (fun z => e (h.inj q hk hi z))]
      exact f3
  · show σ.1 6 k r = up2 (yF y) 3 (idS σ i) v (8 + r) (idS σ k)
    rw [rr r hr]
    unfold up2
    rw [if_neg (by omega)]
theorem RCw.done (h : RCw σ y al sp rd en ts g) (q : Srt y) {i : Nat} (hi : i ∈ al) (v : Int32) : RCw (sI σ 5 i 11 v) (setF y 4 (idS σ i) v) al sp rd en ts g := by
  refine ⟨h.1, h.2.1, h.2.2.1, fun k hk => ⟨?_, (h.2.2.2.1 k hk).2.1, (h.2.2.2.1 k hk).2.2⟩, h.2.2.2.2.1, h.2.2.2.2.2.1, h.2.2.2.2.2.2.1, h.2.2.2.2.2.2.2.1, h.2.2.2.2.2.2.2.2.1, h.2.2.2.2.2.2.2.2.2⟩
  obtain ⟨f0, f1, f2, f3, f4, f5, b0, b1, rr⟩ := (h.2.2.2.1 k hk).1
  refine ⟨f0, f1, f2, f3, ?_, f5, b0, b1, fun r hr => ?_⟩
  · show u3 σ.1 5 i 11 v 5 k 11 = up2 (yF y) 4 (idS σ i) v 4 (idS σ k)
    by_cases e : k = i
    · subst e
      rw [u3_s, up2_s]
    · rw [u3_other e, up2_o (fun z => e (h.inj q hk hi z))]
      exact f4
  · show σ.1 6 k r = up2 (yF y) 4 (idS σ i) v (8 + r) (idS σ k)
    rw [rr r hr]
    unfold up2
    rw [if_neg (by omega)]
theorem RCw.waits (h : RCw σ y al sp rd en ts g) (q : Srt y) {i : Nat} (hi : i ∈ al) (v : Bool) : RCw (sI σ 5 i 10 (bI v)) (setB y 1 (idS σ i) v) al sp rd en ts g := by
  refine ⟨h.1, h.2.1, h.2.2.1, fun k hk => ⟨?_, (h.2.2.2.1 k hk).2.1, (h.2.2.2.1 k hk).2.2⟩, h.2.2.2.2.1, h.2.2.2.2.2.1, h.2.2.2.2.2.2.1, h.2.2.2.2.2.2.2.1, h.2.2.2.2.2.2.2.2.1, h.2.2.2.2.2.2.2.2.2⟩
  obtain ⟨f0, f1, f2, f3, f4, f5, b0, b1, rr⟩ := (h.2.2.2.1 k hk).1
  refine ⟨f0, f1, f2, f3, f4, f5, b0, ?_, rr⟩
  show u3 σ.1 5 i 10 (bI v) 5 k 10 = bI (up2 (yB y) 1 (idS σ i) v 1 (idS σ k))
  by_cases e : k = i
  · subst e
    rw [u3_s, up2_s]
  · rw [u3_other e, up2_o (fun z => e (h.inj q hk hi z))]
    exact b1
theorem RCw.traps (h : RCw σ y al sp rd en ts g) (q : Srt y) {i : Nat} (hi : i ∈ al) (v : Bool) : RCw (sI σ 5 i 9 (bI v)) (setB y 0 (idS σ i) v) al sp rd en ts g := by
  refine ⟨h.1, h.2.1, h.2.2.1, fun k hk => ⟨?_, (h.2.2.2.1 k hk).2.1, (h.2.2.2.1 k hk).2.2⟩, h.2.2.2.2.1, h.2.2.2.2.2.1, h.2.2.2.2.2.2.1, h.2.2.2.2.2.2.2.1, h.2.2.2.2.2.2.2.2.1, h.2.2.2.2.2.2.2.2.2⟩
  obtain ⟨f0, f1, f2, f3, f4, f5, b0, b1, rr⟩ := (h.2.2.2.1 k hk).1
  refine ⟨f0, f1, f2, f3, f4, f5, ?_, b1, rr⟩
  show u3 σ.1 5 i 9 (bI v) 5 k 9 = bI (up2 (yB y) 0 (idS σ i) v 0 (idS σ k))
  by_cases e : k = i
  · subst e
    rw [u3_s, up2_s]
  · rw [u3_other e, up2_o (fun z => e (h.inj q hk hi z))]
    exact b0
theorem RCw.reg (h : RCw σ y al sp rd en ts g) (q : Srt y) {i : Nat} (hi : i ∈ al) {r : Nat} (v : Int32) : RCw (sI σ 6 i r v) (setF y (8 + r) (idS σ i) v) al sp rd en ts g := by
  refine ⟨h.1, h.2.1, h.2.2.1, fun k hk => ⟨?_, (h.2.2.2.1 k hk).2.1, (h.2.2.2.1 k hk).2.2⟩, h.2.2.2.2.1, h.2.2.2.2.2.1, h.2.2.2.2.2.2.1, h.2.2.2.2.2.2.2.1, h.2.2.2.2.2.2.2.2.1, h.2.2.2.2.2.2.2.2.2⟩
  obtain ⟨f0, f1, f2, f3, f4, f5, b0, b1, rr⟩ := (h.2.2.2.1 k hk).1
  have no : ∀ n, n < 8 → yF (setF y (8 + r) (idS σ i) v) n (idS σ k) = yF y n (idS σ k) := fun n hn => by
    show up2 (yF y) (8 + r) (idS σ i) v n (idS σ k) = _
    unfold up2
    rw [if_neg (by omega)]
  refine ⟨f0.trans (no 0 (by decide)).symm, f1.trans (no 1 (by decide)).symm, f2.trans (no 2 (by decide)).symm, f3.trans (no 3 (by decide)).symm, f4.trans (no 4 (by decide)).symm, f5.trans (no 5 (by decide)).symm, b0, b1, fun s hs => ?_⟩
  show u3 σ.1 6 i r v 6 k s = up2 (yF y) (8 + r) (idS σ i) v (8 + s) (idS σ k)
  by_cases e : k = i
  · subst e
    by_cases e2 : s = r
    · subst e2
      rw [u3_s, up2_s]
    · rw [u3_n _ _ (fun z => e2 z.2.2), rr s hs]
      unfold up2
      rw [if_neg (by omega)]
  · rw [u3_other e, rr s hs]
    unfold up2
    rw [if_neg (fun z => e (h.inj q hk hi z.2))]
/-- the reason of one who isn't ending -/
theorem RCw.reason (h : RCw σ y al sp rd en ts g) {i : Nat} (hi : ¬ i ∈ en) (v : Int32) : RCw (sI σ 5 i 13 v) y al sp rd en ts g := by
  refine ⟨h.1, h.2.1, ⟨h.2.2.1.1, h.2.2.1.2.1, ?_⟩, h.2.2.2.1, h.2.2.2.2.1, h.2.2.2.2.2.1, h.2.2.2.2.2.2.1, h.2.2.2.2.2.2.2.1, h.2.2.2.2.2.2.2.2.1, h.2.2.2.2.2.2.2.2.2⟩
  rw [← h.2.2.1.2.2]
  refine List.map_congr_left (fun k hk => ?_)
  show (idS σ k, u3 σ.1 5 i 13 v 5 k 13) = _
  rw [u3_other (fun e => hi (by rw [← e]; exact hk))]
end REP
