/-! The reference: an actor ends (its loops) -/
def chN (x : Int32) (f : Int32 → Int32) (l : List Int32) : Nat := (l.filter (fun z => f z == x)).length
theorem end_orph {post : mPo} {J : mK} (hJ : Cl tX7_end clR post J) {x r : Int32} {s : Nat} {c4 c5 c6 : Int32} {ls ds0 es0 : List (Int32 × Int32)} {A : List Int32} {F : Int32 → Int32} {w : Nat → Int32} {Y : Yd} {L : Int32} {B : Nat} (hA : A.Pairwise (· < ·)) (hB : B ≤ 200) (hLA : ∀ i ∈ A, i ≤ L)
    (fin : ∀ τ ex, RRw τ Y ls (es0 ++ ex) → EE Y (ds0 ++ ex) → (es0 ++ ex).length ≤ B → τ.1 22 0 = w → J τ 194 [(0, mR 20 0), (1, mI x), (2, mI r), (3, mI (nI s)), (4, mI c4), (5, mI c5), (6, mI c6), (7, mI (idI none))] []) :
    ∀ (m : Nat) (id : Int32) (ρ : mS) (y : Yd) (ex : List (Int32 × Int32)) (b : Option Nat), 0 ≤ id → (gtA A id).length ≤ m → RRw ρ y ls (es0 ++ ex) → EE y (ds0 ++ ex) → yA y = A → yF y 2 = F → yL y = L → ρ.1 22 0 = w → (es0 ++ ex).length + chN x F (gtA A id) ≤ B → yOrph x (gtA A id) y = Y → NXb w (nxP y x false) id 8 b → J ρ 158 [(0, mR 20 0), (1, mI x), (2, mI r), (3, mI (nI s)), (4, mI c4), (5, mI c5), (6, mI c6), (7, mI (idI b))] [] := by
  intro m
  induction m with
  | zero =>
    intro id ρ y ex b hid hm h he eA eF eL ew hb eY hx
    have hnil : gtA A id = [] := List.eq_nil_of_length_eq_zero (Nat.le_zero.mp hm)
    cases b with
    | none =>
      refine stp_j hJ 2 ⟨fun _ => ?_, fun h5 => absurd (by decide) h5⟩
      rw [hnil] at eY hb
      have eY : y = Y := eY
      subst eY
      exact fin ρ ex h he (by omega) ew
    | some t =>
      have hw := h.1
      rw [ew, eA] at hw
      obtain ⟨_, _, l1, e1, _⟩ := nx_some hw hA hid hx
      rw [hnil] at e1
      exact absurd e1.symm (by simp)
  | succ m ih =>
    intro id ρ y ex b hid hm h he eA eF eL ew hb eY hx
    have hw := h.1
    rw [ew, eA] at hw
    cases b with
    | none =>
      refine stp_j hJ 2 ⟨fun _ => ?_, fun h5 => absurd (by decide) h5⟩
      have hno := nx_none hw hx
      have e2 := orph_skip x (gtA A id) [] y (fun z hz q => hno z hz (by rw [nxP, if_neg (by decide)]; exact q))
      rw [List.append_nil, eY] at e2
      have e2 : Y = y := e2
      subst e2
      exact fin ρ ex h he (by omega) ew
    | some t =>
      obtain ⟨hm1, h0, l1, e1, e2⟩ := nx_some hw hA hid hx
      obtain ⟨ht, hgt, hP, _⟩ := hx
      rw [nxP, if_neg (by decide)] at hP
      have hno : ∀ z ∈ l1, ¬ yF y 2 z = x := fun z hz q => e2 z hz (by rw [nxP, if_neg (by decide)]; exact q)
      have e3 : yOrph x (gtA A (w t)) (yEnd y (w t) (-2)) = Y := by
        rw [← eY, e1, orph_skip x l1 _ y hno, yOrph, if_pos hP]
      have hch : chN x F (gtA A id) = 1 + chN x F (gtA A (w t)) := by
        rw [chN, e1, List.filter_append, List.length_append]
        have z1 : l1.filter (fun z => F z == x) = [] := List.filter_eq_nil_iff.mpr (fun z hz q => hno z hz (by rw [eF]; simpa using q))
        rw [z1, List.filter_cons_of_pos (by rw [← eF, hP]; simp), List.length_cons, List.length_nil, chN]
        omega
      refine stp_j hJ 2 ⟨fun h2 => absurd h2 (nI_pos (by omega)), fun _ => ?_⟩
      have hwt : ρ.1 22 0 t = w t := by rw [ew]
      refine stp_j hJ 7 ⟨i20, i22 (by decide), t, ix_nI ht (by decide), _, hwt, trivial, ⟨i20, trivial⟩, _, R_ends h (by omega) (w t) (-2), ?_⟩
      rintro o τ ⟨q, k1, k2⟩
      subst q
      have k2 : τ.1 22 0 = w := k2.trans ew
      have hwt2 : τ.1 22 0 t = w t := by rw [k2]
      have hp : 0 ≤ w t := Int32.le_of_lt (by
        rcases hw.1 t ht with z | z
        · exact absurd z h0
        · exact z.2)
      have k1' : RRw τ (yEnd y (w t) (-2)) ls (es0 ++ (ex ++ [(w t, -2)])) := by
        rw [← List.append_assoc]
        unfold yEnd
        split
        · exact k1
        · exact k1.vE _
      have k3 : EE (yEnd y (w t) (-2)) (ds0 ++ (ex ++ [(w t, -2)])) := by
        rw [← List.append_assoc]
        exact he.end_ (by rw [eA]; exact hm1) (by rw [eL]; exact hLA _ hm1) _
      refine stp_j hJ 8 ⟨i20, i22 (by decide), t, ix_nI ht (by decide), _, hwt2, trivial, ⟨i20, trivial⟩, _, R_nextAfter k1' hp x false, ?_⟩
      rintro o υ ⟨q, b', rfl, hb'⟩
      have q := q.symm
      subst q
      rw [k2] at hb'
      refine stp_j hJ 2 (ih (w t) τ (yEnd y (w t) (-2)) (ex ++ [(w t, -2)]) b' hp ?_ k1' k3 ?_ ?_ ?_ k2 ?_ e3 hb')
      · have := congrArg List.length e1
        simp only [List.length_append, List.length_cons] at this
        omega
      · rw [yA_end]; exact eA
      · rw [yF_end]; exact eF
      · rw [yL_end]; exact eL
      · rw [← List.append_assoc, List.length_append]
        simp only [List.length_cons, List.length_nil]
        omega
theorem InvY.cutx {y : Yd} (h : InvY y) {z x : Int32} (hl : lkd y z x = true) {i : Int32} (hi : i ∈ yA y) (s r : Int32) : InvY (yExit (yCut y z x) i s r) := InvY.exit (h.cut hl) hi s r
theorem end_exit {post : mPo} {J : mK} (hJ : Cl tX7_end clR post J) {x r : Int32} {s : Nat} {c4 c5 c6 : Int32} {ds0 es0 : List (Int32 × Int32)} {A : List Int32} {w : Nat → Int32} {Y : Yd} {L : Int32} {B : Nat} (hA : A.Pairwise (· < ·)) (hB : B ≤ 200) (hLA : ∀ i ∈ A, i ≤ L)
    (fin : ∀ τ ls ex, RRw τ Y ls (es0 ++ ex) → EE Y (ds0 ++ ex) → (es0 ++ ex).length + (yK Y).length ≤ B → τ.1 22 0 = w → J τ 149 [(0, mR 20 0), (1, mI x), (2, mI r), (3, mI (nI s)), (4, mI c4), (5, mI c5), (6, mI c6), (7, mI (idI none))] []) :
    ∀ (m : Nat) (id : Int32) (ρ : mS) (y : Yd) (ls ex : List (Int32 × Int32)) (b : Option Nat), 0 ≤ id → (gtA A id).length ≤ m → RRw ρ y ls (es0 ++ ex) → EE y (ds0 ++ ex) → InvY y → KU y → yA y = A → yL y = L → ρ.1 22 0 = w → (es0 ++ ex).length + (yK y).length ≤ B → yExits x r (gtA A id) y = Y → NXb w (nxP y x true) id 8 b → J ρ 98 [(0, mR 20 0), (1, mI x), (2, mI r), (3, mI (nI s)), (4, mI c4), (5, mI c5), (6, mI c6), (7, mI (idI b))] [] := by
  intro m
  induction m with
  | zero =>
    intro id ρ y ls ex b hid hm h he iv ku eA eL ew hb eY hx
    have hnil : gtA A id = [] := List.eq_nil_of_length_eq_zero (Nat.le_zero.mp hm)
    cases b with
    | none =>
      refine stp_j hJ 2 ⟨fun _ => ?_, fun h5 => absurd (by decide) h5⟩
      rw [hnil] at eY
      have eY : y = Y := eY
      subst eY
      exact fin ρ ls ex h he hb ew
    | some t =>
      have hw := h.1
      rw [ew, eA] at hw
      obtain ⟨_, _, l1, e1, _⟩ := nx_some hw hA hid hx
      rw [hnil] at e1
      exact absurd e1.symm (by simp)
  | succ m ih =>
    intro id ρ y ls ex b hid hm h he iv ku eA eL ew hb eY hx
    have hw := h.1
    rw [ew, eA] at hw
    cases b with
    | none =>
      refine stp_j hJ 2 ⟨fun _ => ?_, fun h5 => absurd (by decide) h5⟩
      have hno := nx_none hw hx
      have e2 := exits_skip x r (gtA A id) [] y (fun z hz q => hno z hz (by rw [nxP, if_pos rfl]; exact q))
      rw [List.append_nil, eY] at e2
      have e2 : Y = y := e2
      subst e2
      exact fin ρ ls ex h he hb ew
    | some t =>
      obtain ⟨hm1, h0, l1, e1, e2⟩ := nx_some hw hA hid hx
      obtain ⟨ht, hgt, hP, _⟩ := hx
      rw [nxP, if_pos rfl] at hP
      have hno : ∀ z ∈ l1, ¬ lkd y z x = true := fun z hz q => e2 z hz (by rw [nxP, if_pos rfl]; exact q)
      have e3 : yExits x r (gtA A (w t)) (yExit (yCut y (w t) x) (w t) x r) = Y := by
        rw [← eY, e1, exits_skip x r l1 _ y hno, yExits, if_pos hP]
        rfl
      have hKl : (yK (yCut y (w t) x)).length + 1 = (yK y).length := by
        obtain ⟨q, hq1, hq2⟩ := List.any_eq_true.mp hP
        show ((yK y).eraseP (isK (w t) x)).length + 1 = _
        rw [List.length_eraseP_of_mem hq1 hq2]
        have := List.length_pos_of_mem hq1
        omega
      refine stp_j hJ 2 ⟨fun h2 => absurd h2 (nI_pos (by omega)), fun _ => ?_⟩
      have hwt : ρ.1 22 0 t = w t := by rw [ew]
      refine stp_j hJ 7 ⟨i20, i22 (by decide), t, ix_nI ht (by decide), _, hwt, trivial, ⟨i20, trivial⟩, _, r_linkAt h.2.2.2.2.2.2.1 (w t) x, ?_⟩
      rintro o τ ⟨q, rfl⟩
      have q := q.symm
      subst q
      have hk : lkd y (w t) x = ls.any (isK (w t) x) := (h.2.2.2.2.2.2.2.1.any_eq).symm
      cases hc : lkL (w t) x ls 0 none with
      | none =>
        have := ((lkL_any (w t) x ls 0 none).mp hc).1
        rw [← hk, hP] at this
        cases this
      | some p =>
        rcases lkL_at (w t) x ls 0 none p hc with z | ⟨j, q, e4, e5, e6⟩
        · cases z
        · rw [Nat.zero_add] at e4
          subst e4
          refine stp_j hJ 4 ⟨trivial, ⟨i20, trivial⟩, _, R_unlink h ku e5 e6, ?_⟩
          rintro o τ ⟨q2, ⟨ls', k1⟩, k2⟩
          subst q2
          have k1 : RRw τ (yCut y (w t) x) ls' (es0 ++ ex) := k1
          have iv1 : InvY (yCut y (w t) x) := iv.cut hP
          have k2 : τ.1 22 0 = w := k2.trans ew
          have hwt2 : τ.1 22 0 t = w t := by rw [k2]
          refine stp_j hJ 5 ⟨trivial, ⟨i20, trivial⟩, _, R_exit k1 (by omega) (k1.hq iv1.1) ht hwt2 h0 x r, ?_⟩
          rintro o υ ⟨q2, g1, g2⟩
          subst q2
          have g2 : υ.1 22 0 = w := g2.trans k2
          have hwt3 : υ.1 22 0 t = w t := by rw [g2]
          have hp : 0 ≤ w t := Int32.le_of_lt (by
            rcases hw.1 t ht with z | z
            · exact absurd z h0
            · exact z.2)
          have hmy : w t ∈ yA (yCut y (w t) x) := by show w t ∈ yA y; rw [eA]; exact hm1
          have g3 := (he.cut (w t) x).exit hmy (by show w t ≤ yL y; rw [eL]; exact hLA _ hm1) x r
          have hxl := exX_len (yCut y (w t) x) (w t) r
          rw [exE_x, List.append_assoc] at g1
          rw [List.append_assoc] at g3
          refine stp_j hJ 8 ⟨i20, i22 (by decide), t, ix_nI ht (by decide), _, hwt3, trivial, ⟨i20, trivial⟩, _, R_nextAfter g1 hp x true, ?_⟩
          rintro o φ ⟨q2, b', rfl, hb'⟩
          have q2 := q2.symm
          subst q2
          rw [g2] at hb'
          refine stp_j hJ 2 ?_
          refine j_pre hJ (lv := [(0, mR 20 0), (1, mI x), (2, mI r), (3, mI (nI s)), (4, mI c4), (5, mI c5), (6, mI c6), (7, mI (idI b'))]) (ext := [(8, _)]) ?_
          refine ih (w t) υ _ ls' (ex ++ exX (yCut y (w t) x) (w t) r) b' hp ?_ g1 g3 (iv1.exit hmy x r) ?_ ?_ ?_ g2 ?_ e3 hb'
          · have := congrArg List.length e1
            simp only [List.length_append, List.length_cons] at this
            omega
          · show (yK (yExit (yCut y (w t) x) (w t) x r)).Pairwise _
            rw [yK_exit]
            exact ku.cut (w t) x
          · rw [yA_exit]; exact eA
          · rw [yL_exit]; exact eL
          · rw [yK_exit, ← List.append_assoc, List.length_append]
            omega
