/-! More that holds of a yard: instructions done by the queued ones, ends of timers, overseers -/
def StR (M : Int32) (y y' : Yd) : Prop := (∀ z, yF y' 4 z = yF y 4 z ∨ yF y' 4 z = 0) ∧ (∀ z ∈ yQ y', z ∈ yQ y ∨ yF y' 4 z = 0) ∧ (∀ i, (yQ y).head? = some i → i ∈ yQ y' → ¬ yF y' 4 i = 0 → (yQ y').head? = some i) ∧ yN y' = yN y ∧ (∀ t ∈ yT y', t ∈ yT y ∨ ((yN y : Int) < t.2.1 ∧ t.2.1 ≤ (yN y : Int) + 2147483647)) ∧ ((∀ j, yF y 2 j ≤ M) → ∀ j, yF y' 2 j ≤ M)
theorem StR.same {M : Int32} {y y' : Yd} (h4 : ∀ z, yF y' 4 z = yF y 4 z) (h2 : ∀ z, yF y' 2 z = yF y 2 z) (hQ : yQ y' = yQ y) (hN : yN y' = yN y) (hT : yT y' = yT y) : StR M y y' :=
  ⟨fun z => Or.inl (h4 z), fun z hz => Or.inl (hQ ▸ hz), fun i hi _ _ => by rw [hQ]; exact hi, hN, fun t ht => Or.inl (hT ▸ ht), fun h j => by rw [h2]; exact h j⟩
theorem StR.tr {M : Int32} {y y' y'' : Yd} (a : StR M y y') (b : StR M y' y'') : StR M y y'' := by
  obtain ⟨a1, a2, a3, a4, a5, a6⟩ := a
  obtain ⟨b1, b2, b3, b4, b5, b6⟩ := b
  refine ⟨fun z => ?_, fun z hz => ?_, fun i hi hm hz => ?_, b4.trans a4, fun t ht => ?_, fun h => b6 (a6 h)⟩
  · rcases b1 z with e | e
    · rw [e]; exact a1 z
    · exact Or.inr e
  · rcases b2 z hz with e | e
    · rcases a2 z e with q | q
      · exact Or.inl q
      · rcases b1 z with p | p
        · exact Or.inr (p.trans q)
        · exact Or.inr p
    · exact Or.inr e
  · have e : yF y'' 4 i = yF y' 4 i := (b1 i).resolve_right hz
    have hm' : i ∈ yQ y' := (b2 i hm).resolve_right hz
    exact b3 i (a3 i hi hm' (by rw [← e]; exact hz)) hm hz
  · rcases b5 t ht with e | e
    · exact a5 t e
    · rw [a4] at e; exact Or.inr e
theorem StR.fld {M : Int32} (y : Yd) {n : Nat} (h2 : ¬ 2 = n) (h4 : ¬ 4 = n) (i v : Int32) : StR M y (setF y n i v) :=
  StR.same (fun z => by show up2 (yF y) n i v 4 z = _; unfold up2; rw [if_neg (fun w => h4 w.1)]) (fun z => by show up2 (yF y) n i v 2 z = _; unfold up2; rw [if_neg (fun w => h2 w.1)]) rfl rfl rfl
theorem StR.rfx {M : Int32} (y : Yd) : StR M y y := StR.same (fun _ => rfl) (fun _ => rfl) rfl rfl rfl
theorem StR.ready {M : Int32} (y : Yd) (i : Int32) : StR M y (yReady y i) := by
  have e4 : ∀ z, yF (yReady y i) 4 z = if z = i then 0 else yF y 4 z := fun z => by
    show up2 (yF y) 4 i 0 4 z = _
    rw [up2_same]
  have e2 : ∀ z, yF (yReady y i) 2 z = yF y 2 z := fun z => by
    show up2 (yF y) 4 i 0 2 z = _
    simp [up2]
  have eQ : yQ (yReady y i) = yQ y ++ [i] := rfl
  refine ⟨fun z => ?_, fun z hz => ?_, fun j hj _ _ => ?_, rfl, fun t ht => Or.inl ht, fun h j => by rw [e2]; exact h j⟩
  · rw [e4]; split
    · exact Or.inr rfl
    · exact Or.inl rfl
  · rw [eQ] at hz
    rcases List.mem_append.mp hz with q | q
    · exact Or.inl q
    · rw [e4, if_pos (List.mem_singleton.mp q)]; exact Or.inr rfl
  · rw [eQ]
    cases hq : yQ y with
    | nil => rw [hq] at hj; cases hj
    | cons a l => rw [hq] at hj; exact hj
theorem StR.erase {M : Int32} {y : Yd} (hn : (yQ y).Nodup) (x : Int32) : StR M y (vQ y ((yQ y).erase x)) := by
  refine ⟨fun z => Or.inl rfl, fun z hz => Or.inl (List.mem_of_mem_erase hz), fun j hj hm _ => ?_, rfl, fun t ht => Or.inl ht, fun h => h⟩
  have hm : j ∈ (yQ y).erase x := hm
  have hjx : ¬ j = x := ((hn.mem_erase_iff).mp hm).1
  show ((yQ y).erase x).head? = some j
  cases hq : yQ y with
  | nil => rw [hq] at hj; cases hj
  | cons a l =>
    rw [hq] at hj
    have : a = j := by simpa using hj
    subst this
    rw [List.erase_cons_tail (by simpa using hjx)]
    rfl
theorem StR.flt {M : Int32} (y : Yd) (p : Int32 × Int × Int32 × Bool → Bool) : StR M y (vT y ((yT y).filter p)) :=
  ⟨fun z => Or.inl rfl, fun z hz => Or.inl hz, fun j hj _ _ => hj, rfl, fun t ht => Or.inl (List.mem_filter.mp ht).1, fun h => h⟩
theorem StR.clock {M : Int32} (y : Yd) (i : Int32) {b : Int32} (hb : 1 ≤ b) (v : Int32) (l : Bool) : StR M y (yClock y i b v l) := by
  unfold yClock
  split
  · refine ⟨fun z => Or.inl rfl, fun z hz => Or.inl hz, fun j hj _ _ => hj, rfl, fun t ht => ?_, fun h => h⟩
    rcases List.mem_append.mp ht with q | q
    · exact Or.inl q
    · rw [List.mem_singleton.mp q]
      have h1 : (1 : Int) ≤ b.toInt := Int32.le_iff_toInt_le.mp hb
      have h2 := b.toInt_lt
      exact Or.inr ⟨by show (yN y : Int) < (yN y : Int) + b.toInt; omega, by show (yN y : Int) + b.toInt ≤ _; omega⟩
  · exact StR.rfx y
theorem StR.del {M : Int32} (y : Yd) (i s v : Int32) : StR M y (yDel y i s v) := by
  unfold yDel
  split
  · exact StR.same (fun _ => rfl) (fun _ => rfl) rfl rfl rfl
  · split
    · exact ((StR.same (y' := vM (vR y (yR y - 1)) (yM y ++ [(i, s, v)])) (fun _ => rfl) (fun _ => rfl) rfl rfl rfl).tr (StR.flt _ _)).tr (StR.ready _ i)
    · exact StR.same (fun _ => rfl) (fun _ => rfl) rfl rfl rfl
theorem StR.end_ {M : Int32} (y : Yd) (i r : Int32) : StR M y (yEnd y i r) := by
  unfold yEnd
  split
  · exact StR.rfx y
  · exact StR.same (fun _ => rfl) (fun _ => rfl) rfl rfl rfl
theorem StR.exit {M : Int32} (y : Yd) (i s r : Int32) : StR M y (yExit y i s r) := by
  unfold yExit
  split
  · exact StR.del y i s r
  · split
    · exact StR.rfx y
    · exact StR.end_ y i r
theorem yF_new2 (y : Yd) (et ar ov : Int32) (j : Int32) : yF (yNew y et ar ov) 2 j = if j = yL y + 1 then ov else yF y 2 j := by
  have e1 : yF (yNew y et ar ov) = up2 (fun n j => if j = yL y + 1 then nF et ar ov n else yF y n j) 4 (yL y + 1) 0 := by simp only [yNew, yReady, setF, setB, yFvQ, yFvF, yFvB, yFvA, yFvL, yFvH]
  rw [e1]
  simp [up2, nF]
theorem StR.new {M : Int32} (y : Yd) (et ar : Int32) {ov : Int32} (ho : (∀ j, yF y 2 j ≤ M) → ov ≤ M) : StR M y (yNew y et ar ov) := by
  have e4 : ∀ z, yF (yNew y et ar ov) 4 z = if z = yL y + 1 then 0 else yF y 4 z := fun z => by
    have e1 : yF (yNew y et ar ov) = up2 (fun n j => if j = yL y + 1 then nF et ar ov n else yF y n j) 4 (yL y + 1) 0 := by simp only [yNew, yReady, setF, setB, yFvQ, yFvF, yFvB, yFvA, yFvL, yFvH]
    rw [e1, up2_same]
    split <;> rfl
  refine ⟨fun z => ?_, fun z hz => ?_, fun j hj _ _ => ?_, yN_new y et ar ov, fun t ht => Or.inl (by rw [yT_new] at ht; exact ht), fun h j => ?_⟩
  · rw [e4]; split
    · exact Or.inr rfl
    · exact Or.inl rfl
  · rw [yQ_new] at hz
    rcases List.mem_append.mp hz with q | q
    · exact Or.inl q
    · rw [e4, if_pos (List.mem_singleton.mp q)]; exact Or.inr rfl
  · rw [yQ_new]
    cases hq : yQ y with
    | nil => rw [hq] at hj; cases hj
    | cons a l => rw [hq] at hj; exact hj
  · rw [yF_new2]; split
    · exact ho h
    · exact h j
theorem StR.begin {M : Int32} (y : Yd) (et ar : Int32) {ov : Int32} (ho : (∀ j, yF y 2 j ≤ M) → ov ≤ M) : StR M y (yBegin y et ar ov).1 := by
  unfold yBegin
  split
  · exact StR.new y et ar ho
  · exact StR.rfx y
theorem StR.spawn {M : Int32} (y : Yd) (i a b : Int32) {ov : Int32} (ho : (∀ j, yF y 2 j ≤ M) → ov ≤ M) : StR M y (ySpawn y i a b ov) := by
  have h := StR.begin (M := M) y b (yF y (rg a) i) ho
  unfold ySpawn
  generalize yBegin y b (yF y (rg a) i) ov = q at h
  rcases q with ⟨z, _ | k⟩
  · exact h.tr (StR.fld z (by unfold rg; omega) (by unfold rg; omega) i _)
  · exact h.tr (StR.fld z (by unfold rg; omega) (by unfold rg; omega) i _)
theorem StR.take {M : Int32} {y : Yd} (hn : (yQ y).Nodup) (i a b : Int32) : StR M y (yTake y i a b) := by
  unfold yTake
  split
  · rename_i m l hm
    refine ((StR.fld y (n := 11) (by decide) (by decide) i m.2.1).tr (StR.fld (setF y 11 i m.2.1) (n := rg a) (by unfold rg; omega) (by unfold rg; omega) i m.2.2)).tr ?_
    exact StR.same (fun _ => rfl) (fun _ => rfl) rfl rfl rfl
  · have h1 : StR M y (vQ (setB (setF y 3 i (yF y 3 i - 1)) 1 i true) ((yQ y).erase i)) :=
      ((StR.fld y (n := 3) (by decide) (by decide) i (yF y 3 i - 1)).tr (StR.same (y' := setB (setF y 3 i (yF y 3 i - 1)) 1 i true) (fun _ => rfl) (fun _ => rfl) rfl rfl rfl)).tr (StR.erase (y := setB (setF y 3 i (yF y 3 i - 1)) 1 i true) hn i)
    split
    · rename_i hb
      exact h1.tr (StR.clock _ i hb 0 true)
    · exact h1
theorem StR.link {M : Int32} (y : Yd) (i a : Int32) : StR M y (yLink y i a) := by
  unfold yLink
  split
  · exact StR.exit y i _ _
  · split
    · exact StR.rfx y
    · split
      · exact StR.fld y (by unfold rg; omega) (by unfold rg; omega) i _
      · exact StR.same (fun _ => rfl) (fun _ => rfl) rfl rfl rfl
theorem StR.act {M : Int32} {y : Yd} (hn : (yQ y).Nodup) {i op a b : Int32} (hi : i ≤ M) (h0 : 0 ≤ M) (ho : insOk op a b) : StR M y (yAct y i op a b) := by
  have rf : ∀ (v : Int32), StR M y (setF y (rg a) i v) := fun v => StR.fld y (by unfold rg; omega) (by unfold rg; omega) i v
  have r3 : ∀ (v : Int32), StR M y (setF y 3 i v) := fun v => StR.fld y (by decide) (by decide) i v
  unfold yAct
  by_cases c0 : op = 0
  · rw [if_pos c0]; exact rf _
  rw [if_neg c0]
  by_cases c1 : op = 1
  · rw [if_pos c1]; exact rf _
  rw [if_neg c1]
  by_cases c2 : op = 2
  · rw [if_pos c2]; split
    · exact r3 _
    · exact StR.rfx y
  rw [if_neg c2]
  by_cases c3 : op = 3
  · rw [if_pos c3]; exact r3 _
  rw [if_neg c3]
  by_cases c4 : op = 4
  · rw [if_pos c4]; split
    · exact StR.del y _ _ _
    · exact StR.rfx y
  rw [if_neg c4]
  by_cases c5 : op = 5
  · rw [if_pos c5]; exact StR.take hn i a b
  rw [if_neg c5]
  by_cases c6 : op = 6
  · rw [if_pos c6]; exact StR.spawn y i a b (fun _ => h0)
  rw [if_neg c6]
  by_cases c7 : op = 7
  · rw [if_pos c7]; exact StR.spawn y i a b (fun _ => hi)
  rw [if_neg c7]
  by_cases c8 : op = 8
  · rw [if_pos c8]; exact StR.link y i a
  rw [if_neg c8]
  by_cases c9 : op = 9
  · rw [if_pos c9]; exact StR.same (fun _ => rfl) (fun _ => rfl) rfl rfl rfl
  rw [if_neg c9]
  by_cases c10 : op = 10
  · rw [if_pos c10]; exact StR.end_ y _ _
  rw [if_neg c10]
  by_cases c11 : op = 11
  · rw [if_pos c11]
    unfold yPut
    split
    · exact StR.same (fun _ => rfl) (fun _ => rfl) rfl rfl rfl
    · exact StR.rfx y
  rw [if_neg c11]
  by_cases c12 : op = 12
  · rw [if_pos c12]; exact rf _
  rw [if_neg c12]
  refine StR.clock y i (ho.2.2.2.2.2 ?_) _ false
  have q1 := Int32.le_iff_toInt_le.mp ho.1
  have q2 := Int32.le_iff_toInt_le.mp ho.2.1
  have ne : ∀ (k : Int32), ¬ op = k → ¬ op.toInt = k.toInt := fun k z w => z (Int32.toInt_inj.mp w)
  have e0 := ne 0 c0
  have e1 := ne 1 c1
  have e2 := ne 2 c2
  have e3 := ne 3 c3
  have e4 := ne 4 c4
  have e5 := ne 5 c5
  have e6 := ne 6 c6
  have e7 := ne 7 c7
  have e8 := ne 8 c8
  have e9 := ne 9 c9
  have e10 := ne 10 c10
  have e11 := ne 11 c11
  have e12 := ne 12 c12
  apply Int32.toInt_inj.mp
  simp only [show (0 : Int32).toInt = 0 from rfl, show (1 : Int32).toInt = 1 from rfl, show (2 : Int32).toInt = 2 from rfl, show (3 : Int32).toInt = 3 from rfl, show (4 : Int32).toInt = 4 from rfl, show (5 : Int32).toInt = 5 from rfl, show (6 : Int32).toInt = 6 from rfl, show (7 : Int32).toInt = 7 from rfl, show (8 : Int32).toInt = 8 from rfl, show (9 : Int32).toInt = 9 from rfl, show (10 : Int32).toInt = 10 from rfl, show (11 : Int32).toInt = 11 from rfl, show (12 : Int32).toInt = 12 from rfl, show (13 : Int32).toInt = 13 from rfl] at *
  omega
theorem StR.perf {M : Int32} {y : Yd} (hn : (yQ y).Nodup) {i : Int32} (hi : i ≤ M) (h0 : 0 ≤ M) (hc : CodeOk y) : StR M y (yPerf y i) := by
  unfold yPerf
  split
  · rename_i h
    refine (StR.fld y (n := 3) (by decide) (by decide) i (yF y 3 i + 1)).tr (StR.act (y := setF y 3 i (yF y 3 i + 1)) hn hi h0 ?_)
    have h1 := Int32.le_iff_toInt_le.mp h.1
    have h2 := Int32.lt_iff_toInt_lt.mp h.2.1
    have e0 : (0 : Int32).toInt = 0 := rfl
    have e48 : (48 : Int32).toInt = 48 := rfl
    have hlt : (yF y 3 i).toNatClampNeg < 48 := by
      have : (yF y 3 i).toNatClampNeg = (yF y 3 i).toInt.toNat := rfl
      omega
    rcases hc _ hlt with q | q
    · exact absurd q h.2.2
    · exact q
  · exact StR.end_ y i _
theorem StR.exits {M : Int32} (x r : Int32) : ∀ (l : List Int32) (y : Yd), StR M y (yExits x r l y)
  | [], y => StR.rfx y
  | z :: l, y => by
    unfold yExits
    split
    · exact ((StR.same (y' := yCut y z x) (fun _ => rfl) (fun _ => rfl) rfl rfl rfl).tr (StR.exit (yCut y z x) z x r)).tr (StR.exits x r l _)
    · exact StR.exits x r l y
theorem StR.orph {M : Int32} (x : Int32) : ∀ (l : List Int32) (y : Yd), StR M y (yOrph x l y)
  | [], y => StR.rfx y
  | z :: l, y => by
    unfold yOrph
    split
    · exact (StR.end_ y z (-2)).tr (StR.orph x l _)
    · exact StR.orph x l y
theorem StR.hist {M : Int32} (y : Yd) (o : Int32) : StR M y (yHist y o) :=
  (StR.fld y (n := 5) (by decide) (by decide) o (yF y 5 o + 1)).tr (StR.same (fun _ => rfl) (fun _ => rfl) rfl rfl rfl)
theorem StR.tell {M : Int32} (y : Yd) (x : Int32) : StR M y (yTell y x) := by
  unfold yTell
  split
  · split
    · refine (StR.hist y (yF y 2 x)).tr (StR.begin _ _ _ (fun h => ?_))
      have := h x
      have e : yF (yHist y (yF y 2 x)) 2 x = yF y 2 x := by
        show up2 (yF y) 5 (yF y 2 x) (yF y 5 (yF y 2 x) + 1) 2 x = _
        simp [up2]
      rw [e] at this
      exact this
    · exact StR.end_ y _ _
  · exact StR.rfx y
theorem StR.bury {M : Int32} {y : Yd} (hn : (yQ y).Nodup) (x : Int32) : StR M y (yBury y x) :=
  ((StR.erase hn x).tr (StR.flt _ (fun t => !(t.1 == x)))).tr (StR.same (fun _ => rfl) (fun _ => rfl) rfl rfl rfl)
theorem StR.settle {M : Int32} {y : Yd} (hn : (yQ y).Nodup) : StR M y (ySettle y) := by
  unfold ySettle
  split
  · exact StR.rfx y
  · split
    · exact ((StR.bury hn _).tr (StR.exits _ _ _ _)).tr (StR.orph _ _ _)
    · exact (((StR.bury hn _).tr (StR.exits _ _ _ _)).tr (StR.orph _ _ _)).tr (StR.tell _ _)
theorem StR.settles {M : Int32} : ∀ (n : Nat) (y : Yd), Full y → (yL y).toInt + n < 2147483647 → StR M y (ySettles n y)
  | 0, y, _, _ => StR.rfx y
  | n + 1, y, q, hL => by
    unfold ySettles
    split
    · exact StR.rfx y
    · obtain ⟨f, l, _⟩ := q.settle (by omega)
      refine (StR.settle q.1.1.2.1).tr (StR.settles n (ySettle y) f ?_)
      rcases l with e | e
      · rw [e]; omega
      · have : (yL y + 1).toInt ≤ (yL y).toInt + 1 := by
          rw [Int32.toInt_add]
          have h1 : (1 : Int32).toInt = 1 := rfl
          rw [h1, Int.bmod_eq_of_le (by have := (yL y).le_toInt; omega) (by omega)]
          exact Int.le_refl _
        rw [e]; omega
/-- instructions done by the queued ones; timers' ends; overseers -/
def TU (y : Yd) : Prop := ∀ z ∈ yQ y, 0 ≤ yF y 4 z ∧ yF y 4 z ≤ 4
def TmI (y : Yd) : Prop := ∀ t ∈ yT y, (yN y : Int) < t.2.1 ∧ t.2.1 ≤ (yN y : Int) + 2147483647
def OvI (y : Yd) : Prop := ∀ j, yF y 2 j ≤ yL y
theorem TU.st {M : Int32} {y y' : Yd} (h : TU y) (s : StR M y y') : TU y' := fun z hz => by
  rcases s.2.1 z hz with q | q
  · rcases s.1 z with e | e
    · rw [e]; exact h z q
    · rw [e]; decide
  · rw [q]; decide
theorem TmI.st {M : Int32} {y y' : Yd} (h : TmI y) (s : StR M y y') : TmI y' := fun t ht => by
  rw [s.2.2.2.1]
  rcases s.2.2.2.2.1 t ht with q | q
  · exact h t q
  · exact q
theorem OvI.st {y y' : Yd} (h : OvI y) (s : StR (yL y) y y') (hl : yL y ≤ yL y') : OvI y' := fun j => Int32.le_trans (s.2.2.2.2.2 h j) hl
theorem i_up {x z : Int32} (hL : x.toInt < 2147483647) (h : z = x ∨ z = x + 1) : x ≤ z := by
  rcases h with e | e
  · rw [e]; exact Int32.le_refl _
  · rw [e]; exact Int32.le_of_lt (l_lt hL)
theorem settles_mono : ∀ (n : Nat) (y : Yd), Full y → (yL y).toInt + n < 2147483647 → yL y ≤ yL (ySettles n y)
  | 0, y, _, _ => Int32.le_refl _
  | n + 1, y, q, hL => by
    unfold ySettles
    split
    · exact Int32.le_refl _
    · obtain ⟨f, l, _⟩ := q.settle (by omega)
      refine Int32.le_trans (i_up (by omega) l) (settles_mono n (ySettle y) f ?_)
      rcases l with e | e
      · rw [e]; omega
      · rw [e, toInt_succ (by omega)]; omega
theorem bump4 {y : Yd} (t : TU y) {i : Int32} (hi : i ∈ yQ y) : 0 ≤ yF (setF y 4 i (yF y 4 i + 1)) 4 i ∧ yF (setF y 4 i (yF y 4 i + 1)) 4 i ≤ 5 := by
  have e : yF (setF y 4 i (yF y 4 i + 1)) 4 i = yF y 4 i + 1 := by
    show up2 (yF y) 4 i _ 4 i = _
    simp [up2]
  rw [e]
  have h1 := Int32.le_iff_toInt_le.mp (t i hi).1
  have h2 := Int32.le_iff_toInt_le.mp (t i hi).2
  have e0 : (0 : Int32).toInt = 0 := rfl
  have e4 : (4 : Int32).toInt = 4 := rfl
  have e5 : (5 : Int32).toInt = 5 := rfl
  have h3 := toInt_succ (x := yF y 4 i) (by omega)
  exact ⟨Int32.le_iff_toInt_le.mpr (by omega), Int32.le_iff_toInt_le.mpr (by omega)⟩
theorem done5 {M : Int32} {y y' : Yd} (t : TU y) {i : Int32} (hi : i ∈ yQ y) (s : StR M (setF y 4 i (yF y 4 i + 1)) y') : yF y' 4 i ≤ 5 := by
  rcases s.1 i with e | e
  · rw [e]; exact (bump4 t hi).2
  · rw [e]; decide
theorem le5_eq {v : Int32} (h : v ≤ 5) : 5 ≤ v ↔ v = 5 := by
  refine ⟨fun z => ?_, fun z => by rw [z]; exact Int32.le_refl _⟩
  exact Int32.le_antisymm h z
theorem TU.step {M : Int32} {y y' : Yd} (t : TU y) {i : Int32} (hi : (yQ y).head? = some i) (s : StR M (setF y 4 i (yF y 4 i + 1)) y') : TU (yTurn y' i) := by
  have hm : i ∈ yQ y := by
    cases hq : yQ y with
    | nil => rw [hq] at hi; cases hi
    | cons a l =>
      rw [hq] at hi
      have : a = i := by simpa using hi
      rw [this]; exact List.mem_cons_self
  have hb := bump4 t hm
  have base : ∀ z ∈ yQ y', ¬ z = i → 0 ≤ yF y' 4 z ∧ yF y' 4 z ≤ 4 := fun z hz hne => by
    rcases s.2.1 z hz with q | q
    · rcases s.1 z with e | e
      · have e2 : yF (setF y 4 i (yF y 4 i + 1)) 4 z = yF y 4 z := by
          show up2 (yF y) 4 i _ 4 z = _
          rw [up2_same, if_neg hne]
        rw [e, e2]; exact t z q
      · rw [e]; decide
    · rw [q]; decide
  unfold yTurn
  split
  · intro z hz
    have e4 : ∀ z, yF (yReady (vQ y' ((yQ y').erase i)) i) 4 z = if z = i then 0 else yF y' 4 z := fun z => by
      show up2 (yF y') 4 i 0 4 z = _
      rw [up2_same]
    rw [e4]
    by_cases hz2 : z = i
    · rw [if_pos hz2]; decide
    · rw [if_neg hz2]
      have hz : z ∈ (yQ y').erase i ++ [i] := hz
      rcases List.mem_append.mp hz with q | q
      · exact base z (List.mem_of_mem_erase q) hz2
      · exact absurd (List.mem_singleton.mp q) hz2
  · rename_i hc
    intro z hz
    by_cases hz2 : z = i
    · subst hz2
      by_cases h0 : yF y' 4 z = 0
      · rw [h0]; decide
      · have hh := s.2.2.1 z hi hz h0
        have e := (s.1 z).resolve_right h0
        have h5 : ¬ 5 ≤ yF y' 4 z := fun w => hc ⟨hh, w⟩
        rw [e] at h5 ⊢
        refine ⟨hb.1, ?_⟩
        have q1 := Int32.lt_iff_toInt_lt.mp (Int32.not_le.mp h5)
        have e4 : (4 : Int32).toInt = 4 := rfl
        have e5 : (5 : Int32).toInt = 5 := rfl
        exact Int32.le_iff_toInt_le.mpr (by omega)
    · exact base z hz hz2
theorem turn_T (y : Yd) (i : Int32) : yT (yTurn y i) = yT y ∧ yN (yTurn y i) = yN y ∧ yL (yTurn y i) = yL y ∧ yE (yTurn y i) = yE y ∧ ∀ j, yF (yTurn y i) 2 j = yF y 2 j := by
  unfold yTurn
  split
  · refine ⟨rfl, rfl, rfl, rfl, fun j => ?_⟩
    show up2 (yF y) 4 i 0 2 j = _
    simp [up2]
  · exact ⟨rfl, rfl, rfl, rfl, fun _ => rfl⟩
theorem fst_q {y : Yd} {i : Int32} {l : List Int32} (h : yQ y = i :: l) : i ∈ yQ y := by rw [h]; exact List.mem_cons_self
theorem step_st {y : Yd} (q : Full y) (qc : CodeOk y) (hL : (yL y).toInt + 1002 < 2147483647) {i : Int32} {l : List Int32} (hq : yQ y = i :: l) : StR (yL y) (setF y 4 i (yF y 4 i + 1)) (ySettles 1000 (yPerf (setF y 4 i (yF y 4 i + 1)) i)) ∧ yL y ≤ yL (ySettles 1000 (yPerf (setF y 4 i (yF y 4 i + 1)) i)) := by
  have hi := fst_q hq
  have hA : i ∈ yA y := q.1.1.2.2.1 i hi
  have hiL : i ≤ yL y := (q.1.2.2.2.2.2.2.1 i hA).2
  have q1 : Full (setF y 4 i (yF y 4 i + 1)) := q.fld 4 i _
  have p1 := StR.perf (M := yL y) (y := setF y 4 i (yF y 4 i + 1)) q1.1.1.2.1 hiL q.2.2.2.2 qc
  have q2 : Full (yPerf (setF y 4 i (yF y 4 i + 1)) i) := q1.perf (y := setF y 4 i (yF y 4 i + 1)) (by show (yL y).toInt < _; omega) hi
  have l2 := yL_perf (setF y 4 i (yF y 4 i + 1)) i
  have e1 : yL (setF y 4 i (yF y 4 i + 1)) = yL y := rfl
  rw [e1] at l2
  have b2 : (yL (yPerf (setF y 4 i (yF y 4 i + 1)) i)).toInt + 1000 < 2147483647 := by
    rcases l2 with e | e
    · rw [e]; omega
    · rw [e, toInt_succ (by omega)]; omega
  exact ⟨p1.tr (StR.settles 1000 _ q2 b2), Int32.le_trans (i_up (by omega) l2) (settles_mono 1000 _ q2 b2)⟩
theorem step_more {y : Yd} (q : Full y) (qc : CodeOk y) (hL : (yL y).toInt + 1002 < 2147483647) (t : TU y) (m : TmI y) (o : OvI y) : TU (yStep y).1 ∧ TmI (yStep y).1 ∧ OvI (yStep y).1 := by
  unfold yStep
  split
  · exact ⟨t, m, o⟩
  · rename_i i l hq
    obtain ⟨s, hl⟩ := step_st q qc hL hq
    obtain ⟨e1, e2, e3, e4, e5⟩ := turn_T (ySettles 1000 (yPerf (setF y 4 i (yF y 4 i + 1)) i)) i
    refine ⟨TU.step t (by rw [hq]; rfl) s, fun t ht => ?_, fun j => ?_⟩
    · have ht : t ∈ yT (yTurn (ySettles 1000 (yPerf (setF y 4 i (yF y 4 i + 1)) i)) i) := ht
      show (yN (yTurn (ySettles 1000 (yPerf (setF y 4 i (yF y 4 i + 1)) i)) i) : Int) < _ ∧ _ ≤ (yN (yTurn (ySettles 1000 (yPerf (setF y 4 i (yF y 4 i + 1)) i)) i) : Int) + _
      rw [e1] at ht
      rw [e2]
      exact TmI.st (y := setF y 4 i (yF y 4 i + 1)) m s t ht
    · show yF (yTurn (ySettles 1000 (yPerf (setF y 4 i (yF y 4 i + 1)) i)) i) 2 j ≤ yL (yTurn (ySettles 1000 (yPerf (setF y 4 i (yF y 4 i + 1)) i)) i)
      rw [e3, e5]
      refine Int32.le_trans (s.2.2.2.2.2 (fun j => ?_) j) hl
      have : yF (setF y 4 i (yF y 4 i + 1)) 2 j = yF y 2 j := by
        show up2 (yF y) 4 i (yF y 4 i + 1) 2 j = _
        simp [up2]
      rw [this]; exact o j
