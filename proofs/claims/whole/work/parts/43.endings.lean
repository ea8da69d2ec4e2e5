/-! Endings as the reference keeps them (doubles and dead ones) against the spec's; the measure of endings; next ones by rising ids -/
def eD : List Int32 → List (Int32 × Int32) → List (Int32 × Int32)
  | _, [] => []
  | A, e :: es => if e.1 ∈ A then e :: eD (A.filter (fun j => !(j == e.1))) es else eD A es
theorem eD_app (i r : Int32) : ∀ (es : List (Int32 × Int32)) (A : List Int32), eD A (es ++ [(i, r)]) = if i ∈ A ∧ (eD A es).any (fun e => e.1 == i) = false then eD A es ++ [(i, r)] else eD A es
  | [], A => by
    by_cases h : i ∈ A
    · simp [eD, h]
    · simp [eD, h]
  | e :: es, A => by
    rw [List.cons_append, eD, eD, eD_app i r es, eD_app i r es]
    by_cases h : e.1 ∈ A
    · rw [if_pos h, if_pos h]
      by_cases he : e.1 = i
      · rw [if_neg, if_neg]
        · simp [he]
        · simp [he]
      · have h1 : i ∈ A.filter (fun j => !(j == e.1)) ↔ i ∈ A := by
          rw [List.mem_filter]
          have : ¬ i = e.1 := fun z => he z.symm
          simp [this]
        have h2 : (e :: eD (A.filter (fun j => !(j == e.1))) es).any (fun e => e.1 == i) = (eD (A.filter (fun j => !(j == e.1))) es).any (fun e => e.1 == i) := by
          simp [he]
        simp only [h1, h2]
        split <;> rfl
    · rw [if_neg h, if_neg h]
theorem eD_cg : ∀ (es : List (Int32 × Int32)) (A B : List Int32), (∀ e ∈ es, e.1 ∈ A ↔ e.1 ∈ B) → eD A es = eD B es
  | [], _, _, _ => rfl
  | e :: es, A, B, h => by
    have h1 := h e (List.mem_cons_self)
    have h2 : ∀ d ∈ es, d.1 ∈ A ↔ d.1 ∈ B := fun d hd => h d (List.mem_cons_of_mem _ hd)
    rw [eD, eD, eD_cg es A B h2, eD_cg es (A.filter (fun j => !(j == e.1))) (B.filter (fun j => !(j == e.1)))]
    · by_cases z : e.1 ∈ A
      · rw [if_pos z, if_pos (h1.mp z)]
      · rw [if_neg z, if_neg (fun q => z (h1.mpr q))]
    · intro d hd
      rw [List.mem_filter, List.mem_filter, h2 d hd]
def EE (y : Yd) (ds : List (Int32 × Int32)) : Prop := yE y = eD (yA y) ds ∧ ∀ e ∈ ds, e.1 ≤ yL y
theorem EE.end_ {y : Yd} {ds : List (Int32 × Int32)} (h : EE y ds) {i : Int32} (hi : i ∈ yA y) (hl : i ≤ yL y) (r : Int32) : EE (yEnd y i r) (ds ++ [(i, r)]) := by
  refine ⟨?_, ?_⟩
  · rw [yA_end, eD_app, ← h.1, yEnd]
    cases hc : (yE y).any (fun e => e.1 == i) with
    | true => rw [if_pos rfl, if_neg (fun z => by cases z.2)]
    | false => rw [if_neg (by decide), if_pos ⟨hi, rfl⟩]; rfl
  · intro e he
    rw [yL_end]
    rcases List.mem_append.mp he with z | z
    · exact h.2 e z
    · rw [List.mem_singleton.mp z]; exact hl
theorem yE_del (y : Yd) (i s v : Int32) : yE (yDel y i s v) = yE y := by
  unfold yDel
  split
  · rfl
  · split <;> rfl
def exX (y : Yd) (i r : Int32) : List (Int32 × Int32) := if yB y 0 i = true ∨ r = 0 then [] else [(i, r)]
theorem exE_x (es : List (Int32 × Int32)) (y : Yd) (i r : Int32) : exE es y i r = es ++ exX y i r := by
  unfold exE exX
  split <;> simp
theorem exX_len (y : Yd) (i r : Int32) : (exX y i r).length ≤ 1 := by
  unfold exX
  split <;> simp
theorem EE.exit {y : Yd} {ds : List (Int32 × Int32)} (h : EE y ds) {i : Int32} (hi : i ∈ yA y) (hl : i ≤ yL y) (s r : Int32) : EE (yExit y i s r) (ds ++ exX y i r) := by
  unfold yExit exX
  by_cases hb : yB y 0 i = true
  · rw [if_pos hb, if_pos (Or.inl hb), List.append_nil]
    exact ⟨by rw [yE_del, yA_del]; exact h.1, fun e he => by rw [yL_del]; exact h.2 e he⟩
  · rw [if_neg hb]
    by_cases hr : r = 0
    · rw [if_pos hr, if_pos (Or.inr hr), List.append_nil]; exact h
    · rw [if_neg hr, if_neg (fun z => z.elim hb hr)]
      exact h.end_ hi hl r
theorem EE.cut {y : Yd} {ds : List (Int32 × Int32)} (h : EE y ds) (z x : Int32) : EE (yCut y z x) ds := h
theorem EE.bury {y : Yd} {x r : Int32} {ds : List (Int32 × Int32)} (h : EE y ((x, r) :: ds)) (hn : (yA y).Nodup) (hx : x ∈ yA y) : yE y = (x, r) :: yE (yBury y x) ∧ EE (yBury y x) ds := by
  have h1 := h.1
  rw [eD, if_pos hx] at h1
  have e1 : yE (yBury y x) = (yE y).tail := rfl
  have e2 : yA (yBury y x) = (yA y).erase x := rfl
  refine ⟨by rw [e1, h1]; rfl, ?_, fun e he => h.2 e (List.mem_cons_of_mem _ he)⟩
  rw [e1, e2, h1]
  refine eD_cg ds _ _ (fun e _ => ?_)
  rw [hn.mem_erase_iff, List.mem_filter]
  simp [and_comm]
theorem EE.skip {y : Yd} {x r : Int32} {ds : List (Int32 × Int32)} (h : EE y ((x, r) :: ds)) (hx : ¬ x ∈ yA y) : EE y ds := by
  have h1 := h.1
  rw [eD, if_neg hx] at h1
  exact ⟨h1, fun e he => h.2 e (List.mem_cons_of_mem _ he)⟩
theorem EE.new {y : Yd} {ds : List (Int32 × Int32)} (h : EE y ds) (hL : (yL y).toInt < 2147483647) (et ar ov : Int32) : EE (yNew y et ar ov) ds := by
  have hlt := l_lt hL
  refine ⟨?_, fun e he => ?_⟩
  · rw [yE_new, yA_new, h.1]
    refine eD_cg ds _ _ (fun e he => ?_)
    have h2 := h.2 e he
    have : ¬ e.1 = yL y + 1 := fun z => by
      rw [z] at h2
      exact absurd hlt (Int32.not_lt.mpr h2)
    simp [this]
  · rw [yL_new]
    exact Int32.le_trans (h.2 e he) (Int32.le_of_lt hlt)
/-! the measure -/
theorem flt_two {α : Type} (p q s : α → Bool) : ∀ (l : List α), (∀ z ∈ l, p z = true → s z = true) → (∀ z ∈ l, q z = true → s z = true) → (∀ z ∈ l, ¬ (p z = true ∧ q z = true)) → (l.filter p).length + (l.filter q).length ≤ (l.filter s).length
  | [], _, _, _ => by simp
  | a :: l, h1, h2, h3 => by
    have ih := flt_two p q s l (fun z hz => h1 z (List.mem_cons_of_mem _ hz)) (fun z hz => h2 z (List.mem_cons_of_mem _ hz)) (fun z hz => h3 z (List.mem_cons_of_mem _ hz))
    have a1 := h1 a List.mem_cons_self
    have a2 := h2 a List.mem_cons_self
    have a3 := h3 a List.mem_cons_self
    simp only [List.filter_cons]
    cases hp : p a <;> cases hq : q a <;> cases hs : s a <;> simp [hp, hq, hs] at a1 a2 a3 ⊢ <;> omega
def cC (A : List Int32) (f : Int32 → Int32) : Nat := (A.filter (fun z => decide (f z ∈ A))).length
theorem cC_le (A : List Int32) (f : Int32 → Int32) : cC A f ≤ A.length := List.length_filter_le _ _
theorem cC_bury {A : List Int32} (hn : A.Nodup) {x : Int32} (hx : x ∈ A) (f : Int32 → Int32) : ((A.erase x).filter (fun z => f z == x)).length + cC (A.erase x) f + (if f x ∈ A.erase x then 1 else 0) ≤ cC A f := by
  have hp : A.Perm (x :: A.erase x) := List.perm_cons_erase hx
  have e1 : cC A f = ((x :: A.erase x).filter (fun z => decide (f z ∈ A))).length := (hp.filter _).length_eq
  have hm : ∀ z, z ∈ A ↔ (z = x ∨ z ∈ A.erase x) := fun z => by rw [hp.mem_iff, List.mem_cons]
  have hxn : ¬ x ∈ A.erase x := fun z => ((hn.mem_erase_iff).mp z).1 rfl
  rw [e1, List.filter_cons]
  have h2 := flt_two (fun z => f z == x) (fun z => decide (f z ∈ A.erase x)) (fun z => decide (f z ∈ A)) (A.erase x) (fun z _ h => by simp at h; simp [h, hx]) (fun z _ h => by simp at h ⊢; exact (hm _).mpr (Or.inr h)) (fun z _ h => by simp at h; rw [h.1] at h; exact hxn h.2)
  unfold cC
  by_cases hc : f x ∈ A.erase x
  · have : f x ∈ A := (hm _).mpr (Or.inr hc)
    simp only [hc, if_true, this, decide_true, List.length_cons]
    omega
  · rw [if_neg hc]
    split
    · simp only [List.length_cons]; omega
    · omega
theorem cC_new {A : List Int32} {n : Int32} {f g : Int32 → Int32} (hf : ∀ z ∈ A, f z ≠ n) (hg : ∀ z ∈ A, g z = f z) : cC (A ++ [n]) g ≤ cC A f + 1 := by
  unfold cC
  rw [List.filter_append, List.length_append]
  have e : A.filter (fun z => decide (g z ∈ A ++ [n])) = A.filter (fun z => decide (f z ∈ A)) := by
    refine List.filter_congr (fun z hz => ?_)
    rw [hg z hz]
    have := hf z hz
    simp [this]
  rw [e]
  have := List.length_filter_le (fun z => decide (g z ∈ A ++ [n])) [n]
  simp only [List.length_cons, List.length_nil] at this
  omega
def psi (y : Yd) : Nat := (yK y).length + (yA y).length + cC (yA y) (yF y 2)
/-! next ones by rising ids -/
def gtA (A : List Int32) (id : Int32) : List Int32 := A.filter (fun j => decide (id < j))
theorem i_tri (a b : Int32) : a < b ∨ a = b ∨ b < a := by
  rcases Int.lt_trichotomy a.toInt b.toInt with h | h | h
  · exact Or.inl (Int32.lt_iff_toInt_lt.mpr h)
  · exact Or.inr (Or.inl (Int32.toInt_inj.mp h))
  · exact Or.inr (Or.inr (Int32.lt_iff_toInt_lt.mpr h))
theorem gt_split : ∀ (A : List Int32), A.Pairwise (· < ·) → ∀ (id m : Int32), m ∈ A → id < m → ∃ l1, gtA A id = l1 ++ m :: gtA A m ∧ ∀ z ∈ l1, z < m ∧ id < z ∧ z ∈ A
  | [], _, _, _, h, _ => by cases h
  | a :: A, hp, id, m, hm, hl => by
    have hp1 := (List.pairwise_cons.mp hp).1
    have hp2 := (List.pairwise_cons.mp hp).2
    by_cases e : a = m
    · subst e
      refine ⟨[], ?_, fun z hz => by cases hz⟩
      have h1 : gtA (a :: A) id = a :: A := by
        refine List.filter_eq_self.mpr (fun z hz => ?_)
        rcases List.mem_cons.mp hz with q | q
        · rw [q]; simp [hl]
        · have := Int32.lt_trans hl (hp1 z q)
          simp [this]
      have h2 : gtA (a :: A) a = A := by
        unfold gtA
        rw [List.filter_cons_of_neg (by simp [Int32.lt_irrefl])]
        refine List.filter_eq_self.mpr (fun z hz => ?_)
        have := hp1 z hz
        simp [this]
      rw [h1, h2]; rfl
    · have hm2 : m ∈ A := by
        rcases List.mem_cons.mp hm with q | q
        · exact absurd q.symm e
        · exact q
      obtain ⟨l1, e1, e2⟩ := gt_split A hp2 id m hm2 hl
      have ham := hp1 m hm2
      have h2 : gtA (a :: A) m = gtA A m := List.filter_cons_of_neg (by simp; exact Int32.le_of_lt ham)
      rw [h2]
      by_cases hia : id < a
      · refine ⟨a :: l1, ?_, fun z hz => ?_⟩
        · have : gtA (a :: A) id = a :: gtA A id := List.filter_cons_of_pos (by simp [hia])
          rw [this, e1]; rfl
        · rcases List.mem_cons.mp hz with q | q
          · rw [q]; exact ⟨ham, hia, List.mem_cons_self⟩
          · exact ⟨(e2 z q).1, (e2 z q).2.1, List.mem_cons_of_mem _ (e2 z q).2.2⟩
      · refine ⟨l1, ?_, fun z hz => ⟨(e2 z hz).1, (e2 z hz).2.1, List.mem_cons_of_mem _ (e2 z hz).2.2⟩⟩
        have : gtA (a :: A) id = gtA A id := List.filter_cons_of_neg (by simp; exact Int32.not_lt.mp hia)
        rw [this, e1]
theorem exits_skip (x r : Int32) : ∀ (l1 l : List Int32) (y : Yd), (∀ z ∈ l1, ¬ lkd y z x = true) → yExits x r (l1 ++ l) y = yExits x r l y
  | [], _, _, _ => rfl
  | a :: l1, l, y, h => by
    rw [List.cons_append, yExits, if_neg (h a List.mem_cons_self)]
    exact exits_skip x r l1 l y (fun z hz => h z (List.mem_cons_of_mem _ hz))
theorem orph_skip (x : Int32) : ∀ (l1 l : List Int32) (y : Yd), (∀ z ∈ l1, ¬ yF y 2 z = x) → yOrph x (l1 ++ l) y = yOrph x l y
  | [], _, _, _ => rfl
  | a :: l1, l, y, h => by
    rw [List.cons_append, yOrph, if_neg (h a List.mem_cons_self)]
    exact orph_skip x l1 l y (fun z hz => h z (List.mem_cons_of_mem _ hz))
theorem gt_all {A : List Int32} (h : ∀ i ∈ A, 0 < i) : gtA A 0 = A := List.filter_eq_self.mpr (fun z hz => by have := h z hz; simp [this])
theorem nx_none {w : Nat → Int32} {A : List Int32} (hw : RWho w A) {P : Int32 → Prop} {id : Int32} (h : NXb w P id 8 none) : ∀ z ∈ gtA A id, ¬ P z := by
  intro z hz hP
  rw [gtA, List.mem_filter] at hz
  obtain ⟨s, hs, e, _⟩ := hw.2.1 z hz.1
  have h2 : id < z := by simpa using hz.2
  exact h s hs (by rw [e]; exact ⟨h2, hP⟩)
theorem nx_some {w : Nat → Int32} {A : List Int32} (hw : RWho w A) (hA : A.Pairwise (· < ·)) {P : Int32 → Prop} {id : Int32} (hid : 0 ≤ id) {s : Nat} (h : NXb w P id 8 (some s)) : w s ∈ A ∧ ¬ w s = 0 ∧ ∃ l1, gtA A id = l1 ++ w s :: gtA A (w s) ∧ ∀ z ∈ l1, ¬ P z := by
  obtain ⟨h1, h2, h3, h4⟩ := h
  have hp : 0 < w s := by
    rcases i_tri 0 id with z | z | z
    · exact Int32.lt_trans z h2
    · rw [z]; exact h2
    · exact absurd z (Int32.not_lt.mpr hid)
  have hn : ¬ w s = 0 := fun z => by rw [z] at hp; exact absurd hp (by decide)
  have hm : w s ∈ A := by
    rcases hw.1 s h1 with z | z
    · exact absurd z hn
    · exact z.1
  obtain ⟨l1, e1, e2⟩ := gt_split A hA id (w s) hm h2
  refine ⟨hm, hn, l1, e1, fun z hz hP => ?_⟩
  obtain ⟨q1, q2, q3⟩ := e2 z hz
  obtain ⟨t, ht, e, _⟩ := hw.2.1 z q3
  have := h4 t ht (by rw [e]; exact q2) (by rw [e]; exact hP)
  rw [e] at this
  exact absurd q1 (Int32.not_lt.mpr this)
/-! beginning anew: the reference writes the time after, the spec before -/
theorem hist_new (y : Yd) (et ar ov o : Int32) (ho : ¬ o = yL y + 1) : yHist (yNew y et ar ov) o = yNew (yHist y o) et ar ov := by
  have e1 : yF (yHist (yNew y et ar ov) o) = yF (yNew (yHist y o) et ar ov) := by
    funext n j
    have e5 : yF (yNew y et ar ov) 5 o = yF y 5 o := by
      simp [yNew, yReady, setF, setB, yFvQ, yFvF, yFvB, yFvA, yFvL, yFvH, up2, ho]
    have : yF (yHist (yNew y et ar ov) o) n j = up2 (yF (yNew y et ar ov)) 5 o (yF y 5 o + 1) n j := by
      rw [← e5]; rfl
    rw [this]
    simp only [up2, yHist, yNew, yReady, setF, setB, yFvQ, yFvF, yFvB, yFvA, yFvL, yFvH, yLvH, yLvB, yLvF, yLvQ, yLvA, yLvL]
    by_cases q : n = 5 ∧ j = o
    · obtain ⟨rfl, rfl⟩ := q
      simp [ho]
    · simp [q]
  have e2 : yH (yHist (yNew y et ar ov) o) = yH (yNew (yHist y o) et ar ov) := by
    funext j
    have e6 : yH (yNew y et ar ov) o = yH y o := by
      simp [yNew, yReady, setF, setB, yHvQ, yHvF, yHvB, yHvA, yHvL, yHvH, up1, ho]
    have : yH (yHist (yNew y et ar ov) o) j = up1 (yH (yNew y et ar ov)) o ((yH y o).2.1, (yH y o).2.2, (yN y : Int)) j := by
      rw [← e6]; rfl
    rw [this]
    simp only [up1, yHist, yNew, yReady, setF, setB, yHvQ, yHvF, yHvB, yHvA, yHvL, yHvH, yLvH, yLvB, yLvF, yLvQ, yLvA, yLvL]
    by_cases q : j = o
    · subst q
      simp [ho]
    · simp [q]
  have e3 : (yHist (yNew y et ar ov) o).2.1 = (yNew (yHist y o) et ar ov).2.1 := rfl
  have e4 : (yHist (yNew y et ar ov) o).2.2.2 = (yNew (yHist y o) et ar ov).2.2.2 := rfl
  exact Prod.ext e1 (Prod.ext e3 (Prod.ext e2 e4))
