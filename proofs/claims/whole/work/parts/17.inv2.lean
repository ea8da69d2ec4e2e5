/-! Invariants through an ending, a beginning -/
def KD (y : Yd) : Prop := ∀ p ∈ yK y, ¬ p.1 = p.2
def Full (y : Yd) : Prop := InvY y ∧ KU y ∧ KA y ∧ KD y ∧ 0 ≤ yL y
theorem exits_inv (x r : Int32) : ∀ (l : List Int32) (y : Yd), InvY y → KU y → (∀ z ∈ l, z ∈ yA y) → InvY (yExits x r l y) ∧ KU (yExits x r l y) ∧ (yK (yExits x r l y)).Sublist (yK y) ∧ yA (yExits x r l y) = yA y ∧ yL (yExits x r l y) = yL y ∧ yN (yExits x r l y) = yN y ∧ yH (yExits x r l y) = yH y ∧ yC (yExits x r l y) = yC y ∧ (∀ n, ¬ n = 4 → ∀ z, yF (yExits x r l y) n z = yF y n z) ∧ (∀ z ∈ l, lkd (yExits x r l y) z x = false) ∧ ∀ z, lkd y z x = false → lkd (yExits x r l y) z x = false
  | [], y, h, u, _ => ⟨h, u, List.Sublist.refl _, rfl, rfl, rfl, rfl, rfl, fun _ _ _ => rfl, fun _ hz => absurd hz List.not_mem_nil, fun _ h => h⟩
  | z :: l, y, h, u, hm => by
    unfold yExits
    by_cases hl : lkd y z x = true
    · rw [if_pos hl]
      have hz := hm z List.mem_cons_self
      have h1 : InvY (yExit (yCut y z x) z x r) := (h.cut hl).exit hz x r
      have eK : yK (yExit (yCut y z x) z x r) = (yK y).eraseP (isK z x) := yK_exit _ _ _ _
      have u1 : KU (yExit (yCut y z x) z x r) := by
        unfold KU
        rw [eK]
        exact u.sublist List.eraseP_sublist
      have eA : yA (yExit (yCut y z x) z x r) = yA y := yA_exit _ _ _ _
      obtain ⟨a1, a2, a3, a4, a5, a6, a7, a8, a9, a10, a11⟩ := exits_inv x r l (yExit (yCut y z x) z x r) h1 u1 (fun w hw => by rw [eA]; exact hm w (List.mem_cons_of_mem _ hw))
      have el : ∀ w, lkd (yExit (yCut y z x) z x r) w x = lkd (yCut y z x) w x := fun w => by
        unfold lkd
        rw [yK_exit]
      refine ⟨a1, a2, ?_, a4.trans eA, a5.trans (yL_exit _ _ _ _), a6.trans (yN_exit _ _ _ _), a7.trans (yH_exit _ _ _ _), a8.trans (yC_exit _ _ _ _), fun n hn w => (a9 n hn w).trans (yF_exit _ _ _ _ hn w), fun w hw => ?_, fun w hw => a11 w ?_⟩
      · rw [eK] at a3
        exact a3.trans List.eraseP_sublist
      · rcases List.mem_cons.mp hw with rfl | hw
        · refine a11 w ?_
          rw [el]
          exact lkd_cut u w x
        · exact a10 w hw
      · rw [el]
        cases hb : lkd (yCut y z x) w x with
        | false => rfl
        | true =>
          rw [lkd_sub hb] at hw
          exact hw
    · rw [if_neg hl]
      obtain ⟨a1, a2, a3, a4, a5, a6, a7, a8, a9, a10, a11⟩ := exits_inv x r l y h u (fun w hw => hm w (List.mem_cons_of_mem _ hw))
      refine ⟨a1, a2, a3, a4, a5, a6, a7, a8, a9, fun w hw => ?_, a11⟩
      rcases List.mem_cons.mp hw with rfl | hw
      · exact a11 w (Bool.eq_false_iff.mpr hl)
      · exact a10 w hw
theorem orph_inv (x : Int32) : ∀ (l : List Int32) (y : Yd), InvY y → (∀ z ∈ l, z ∈ yA y) → InvY (yOrph x l y) ∧ yK (yOrph x l y) = yK y ∧ yA (yOrph x l y) = yA y ∧ yL (yOrph x l y) = yL y ∧ yN (yOrph x l y) = yN y ∧ yH (yOrph x l y) = yH y ∧ yC (yOrph x l y) = yC y ∧ yF (yOrph x l y) = yF y
  | [], y, h, _ => ⟨h, rfl, rfl, rfl, rfl, rfl, rfl, rfl⟩
  | z :: l, y, h, hm => by
    unfold yOrph
    by_cases hc : yF y 2 z = x
    · rw [if_pos hc]
      obtain ⟨a1, a2, a3, a4, a5, a6, a7, a8⟩ := orph_inv x l (yEnd y z (-2)) (h.end_ (hm z List.mem_cons_self) (-2)) (fun w hw => by rw [yA_end]; exact hm w (List.mem_cons_of_mem _ hw))
      exact ⟨a1, a2.trans (yK_end _ _ _), a3.trans (yA_end _ _ _), a4.trans (yL_end _ _ _), a5.trans (yN_end _ _ _), a6.trans (yH_end _ _ _), a7.trans (yC_end _ _ _), a8.trans (yF_end _ _ _)⟩
    · rw [if_neg hc]
      exact orph_inv x l y h (fun w hw => hm w (List.mem_cons_of_mem _ hw))
theorem yA_new (y : Yd) (et ar ov : Int32) : yA (yNew y et ar ov) = yA y ++ [yL y + 1] := by simp only [yNew, yReady, setF, setB, yAvQ, yAvF, yAvB, yAvA, yAvL, yAvH, yLvH, yLvB, yLvF]
theorem yQ_new (y : Yd) (et ar ov : Int32) : yQ (yNew y et ar ov) = yQ y ++ [yL y + 1] := by simp only [yNew, yReady, setF, setB, yQvQ, yQvF, yQvB, yQvA, yQvL, yQvH, yLvH, yLvB, yLvF]
theorem yT_new (y : Yd) (et ar ov : Int32) : yT (yNew y et ar ov) = yT y := by simp only [yNew, yReady, setF, setB, yTvQ, yTvF, yTvB, yTvA, yTvL, yTvH]
theorem yM_new (y : Yd) (et ar ov : Int32) : yM (yNew y et ar ov) = yM y := by simp only [yNew, yReady, setF, setB, yMvQ, yMvF, yMvB, yMvA, yMvL, yMvH]
theorem yK_new (y : Yd) (et ar ov : Int32) : yK (yNew y et ar ov) = yK y := by simp only [yNew, yReady, setF, setB, yKvQ, yKvF, yKvB, yKvA, yKvL, yKvH]
theorem yR_new (y : Yd) (et ar ov : Int32) : yR (yNew y et ar ov) = yR y := by simp only [yNew, yReady, setF, setB, yRvQ, yRvF, yRvB, yRvA, yRvL, yRvH]
theorem yE_new (y : Yd) (et ar ov : Int32) : yE (yNew y et ar ov) = yE y := by simp only [yNew, yReady, setF, setB, yEvQ, yEvF, yEvB, yEvA, yEvL, yEvH]
theorem yL_new (y : Yd) (et ar ov : Int32) : yL (yNew y et ar ov) = yL y + 1 := by simp only [yNew, yReady, setF, setB, yLvQ, yLvF, yLvB, yLvA, yLvL, yLvH, yLvH, yLvB, yLvF]
theorem yN_new (y : Yd) (et ar ov : Int32) : yN (yNew y et ar ov) = yN y := by simp only [yNew, yReady, setF, setB, yNvQ, yNvF, yNvB, yNvA, yNvL, yNvH]
theorem yC_new (y : Yd) (et ar ov : Int32) : yC (yNew y et ar ov) = yC y := by simp only [yNew, yReady, setF, setB, yCvQ, yCvF, yCvB, yCvA, yCvL, yCvH]
theorem yO_new (y : Yd) (et ar ov : Int32) : yO (yNew y et ar ov) = yO y := by simp only [yNew, yReady, setF, setB, yOvQ, yOvF, yOvB, yOvA, yOvL, yOvH]
theorem yX_new (y : Yd) (et ar ov : Int32) : yX (yNew y et ar ov) = yX y := by simp only [yNew, yReady, setF, setB, yXvQ, yXvF, yXvB, yXvA, yXvL, yXvH]
theorem Full.new {y : Yd} (h : Full y) (hL : (yL y).toInt < 2147483647) (et ar ov : Int32) : Full (yNew y et ar ov) := by
  obtain ⟨⟨⟨q1, q2, q3, q4⟩, t, r, e, ow, ml, ids, ea⟩, ku, ka, kd, l0⟩ := h
  have hlt := l_lt hL
  have hx : ¬ yL y + 1 ∈ yA y := fun z => absurd (ids _ z).2 (Int32.not_le.mpr hlt)
  have hxq : ¬ yL y + 1 ∈ yQ y := fun z => hx (q3 _ z)
  have pos : 0 < yL y + 1 := Int32.lt_of_le_of_lt l0 hlt
  have neA : ∀ {k}, k ∈ yA y → ¬ k = yL y + 1 := fun hk z => hx (by rw [← z]; exact hk)
  have eA : yA (yNew y et ar ov) = yA y ++ [yL y + 1] := yA_new y et ar ov
  have eQ : yQ (yNew y et ar ov) = yQ y ++ [yL y + 1] := yQ_new y et ar ov
  have eT : yT (yNew y et ar ov) = yT y := yT_new y et ar ov
  have eM : yM (yNew y et ar ov) = yM y := yM_new y et ar ov
  have eK : yK (yNew y et ar ov) = yK y := yK_new y et ar ov
  have eR : yR (yNew y et ar ov) = yR y := yR_new y et ar ov
  have eE : yE (yNew y et ar ov) = yE y := yE_new y et ar ov
  have eL : yL (yNew y et ar ov) = yL y + 1 := yL_new y et ar ov
  have eB : ∀ k, yB (yNew y et ar ov) 1 k = if k = yL y + 1 then false else yB y 1 k := fun k => by
    have e1 : yB (yNew y et ar ov) = up2 (fun n j => if j = yL y + 1 then false else yB y n j) 1 (yL y + 1) false := by simp only [yNew, yReady, setF, setB, yBvQ, yBvF, yBvB, yBvA, yBvL, yBvH]
    rw [e1, up2_same]
    by_cases hk : k = yL y + 1
    · rw [if_pos hk, if_pos hk]
    · rw [if_neg hk, if_neg hk]
  generalize yNew y et ar ov = y' at *
  unfold Full InvY InvQ Srt InvT InvR InvE KU KA KD at *
  simp only [eA, eQ, eT, eM, eK, eR, eE, eL, eB]
  refine ⟨⟨⟨?_, ?_, ?_, ?_⟩, t, r, e, ?_, ?_, ?_, ?_⟩, ku, ?_, kd, Int32.le_of_lt pos⟩
  · rw [List.pairwise_append]
    exact ⟨q1, by simp, fun a ha b hb => by rw [List.mem_singleton.mp hb]; exact Int32.lt_of_le_of_lt (ids a ha).2 hlt⟩
  · rw [List.nodup_append]
    exact ⟨q2, by simp, fun a ha b hb z => hxq (by rw [← List.mem_singleton.mp hb, ← z]; exact ha)⟩
  · intro k hk
    rcases List.mem_append.mp hk with hk | hk
    · exact List.mem_append_left _ (q3 k hk)
    · exact List.mem_append_right _ hk
  · intro k hk
    rcases List.mem_append.mp hk with hk | hk
    · rw [if_neg (neA hk), q4 k hk]
      simp [neA hk]
    · rw [List.mem_singleton.mp hk]
      simp
  · intro k hk
    have h2 := ow k hk
    refine ⟨List.mem_append_left _ h2.1, fun z => ?_⟩
    rw [if_neg (neA h2.1)]
    exact h2.2 z
  · exact fun m hm => List.mem_append_left _ (ml m hm)
  · intro k hk
    rcases List.mem_append.mp hk with hk | hk
    · exact ⟨(ids k hk).1, Int32.le_of_lt (Int32.lt_of_le_of_lt (ids k hk).2 hlt)⟩
    · rw [List.mem_singleton.mp hk]
      exact ⟨pos, Int32.le_refl _⟩
  · exact fun p hp => List.mem_append_left _ (ea p hp)
  · exact fun p hp => ⟨List.mem_append_left _ (ka p hp).1, List.mem_append_left _ (ka p hp).2⟩
theorem yL_begin (y : Yd) (et ar ov : Int32) : yL (yBegin y et ar ov).1 = yL y ∨ yL (yBegin y et ar ov).1 = yL y + 1 := by
  unfold yBegin
  split
  · exact Or.inr (yL_new y et ar ov)
  · exact Or.inl rfl
theorem Full.begin {y : Yd} (h : Full y) (hL : (yL y).toInt < 2147483647) (et ar ov : Int32) : Full (yBegin y et ar ov).1 := by
  unfold yBegin
  split
  · exact h.new hL et ar ov
  · exact h
theorem Full.settle {y : Yd} (h : Full y) (hL : (yL y).toInt < 2147483647) : Full (ySettle y) ∧ (yL (ySettle y) = yL y ∨ yL (ySettle y) = yL y + 1) ∧ yN (ySettle y) = yN y := by
  cases hE : yE y with
  | nil =>
    have hs : ySettle y = y := by unfold ySettle; rw [hE]
    rw [hs]
    exact ⟨h, Or.inl rfl, rfl⟩
  | cons e l =>
    obtain ⟨x, r⟩ := e
    have hs : ySettle y = if r = 0 then yOrph x (yA (yBury y x)) (yExits x r (yA (yBury y x)) (yBury y x)) else yTell (yOrph x (yA (yBury y x)) (yExits x r (yA (yBury y x)) (yBury y x))) x := by unfold ySettle; rw [hE]
    rw [hs]
    clear hs
    obtain ⟨q, ku, ka, kd, l0⟩ := h
    have q1 := q.bury hE
    have nd := pw_nd q.1.1
    obtain ⟨a1, a2, a3, a4, a5, a6, a7, a8, a9, a10, a11⟩ := exits_inv x r (yA (yBury y x)) (yBury y x) q1 ku (fun _ hz => hz)
    obtain ⟨b1, b2, b3, b4, b5, b6, b7, b8⟩ := orph_inv x (yA (yBury y x)) (yExits x r (yA (yBury y x)) (yBury y x)) a1 (fun w hw => by rw [a4]; exact hw)
    generalize hy2 : yExits x r (yA (yBury y x)) (yBury y x) = y2 at *
    generalize hy3 : yOrph x (yA (yBury y x)) y2 = y3 at *
    have hA : yA y3 = (yA y).erase x := b3.trans a4
    have sub : ∀ p ∈ yK y3, p ∈ yK y2 ∧ p ∈ yK y := fun p hp => by
      rw [b2] at hp
      exact ⟨hp, a3.subset hp⟩
    have kd3 : KD y3 := fun p hp => kd p (sub p hp).2
    have ka3 : KA y3 := by
      intro p hp
      obtain ⟨p2, p0⟩ := sub p hp
      have h1 := ka p p0
      have h2 := kd p p0
      rw [hA]
      have no1 : ¬ p.1 = x := fun z => by
        have hm : p.2 ∈ yA (yBury y x) := nd.mem_erase_iff.mpr ⟨fun w => h2 (z.trans w.symm), h1.2⟩
        have := a10 p.2 hm
        rw [show lkd y2 p.2 x = true from List.any_eq_true.mpr ⟨p, p2, isK_iff.mpr (Or.inr ⟨z, rfl⟩)⟩] at this
        exact absurd this (by decide)
      have no2 : ¬ p.2 = x := fun z => by
        have hm : p.1 ∈ yA (yBury y x) := nd.mem_erase_iff.mpr ⟨no1, h1.1⟩
        have := a10 p.1 hm
        rw [show lkd y2 p.1 x = true from List.any_eq_true.mpr ⟨p, p2, isK_iff.mpr (Or.inl ⟨rfl, z⟩)⟩] at this
        exact absurd this (by decide)
      exact ⟨nd.mem_erase_iff.mpr ⟨no1, h1.1⟩, nd.mem_erase_iff.mpr ⟨no2, h1.2⟩⟩
    have ku3 : KU y3 := by
      unfold KU
      rw [b2]
      exact a2
    have hL3 : yL y3 = yL y := b4.trans a5
    have f3 : Full y3 := ⟨b1, ku3, ka3, kd3, by rw [hL3]; exact l0⟩
    by_cases hr : r = 0
    · rw [if_pos hr]
      exact ⟨f3, Or.inl hL3, b5.trans a6⟩
    · rw [if_neg hr]
      unfold yTell
      by_cases hv : yF y3 2 x ∈ yA y3
      · rw [if_pos hv]
        by_cases hb : (yH y3 (yF y3 2 x)).1 ≤ (yN y3 : Int) - 10
        · rw [if_pos hb]
          have fh : Full (yHist y3 (yF y3 2 x)) := f3
          refine ⟨fh.begin (by show (yL y3).toInt < _; rw [hL3]; exact hL) _ _ _, ?_, ?_⟩
          · rcases yL_begin (yHist y3 (yF y3 2 x)) (yF y3 0 x) (yF y3 1 x) (yF y3 2 x) with z | z
            · exact Or.inl (z.trans hL3)
            · refine Or.inr (z.trans ?_)
              show yL y3 + 1 = yL y + 1
              rw [hL3]
          · unfold yBegin
            split
            · exact (yN_new _ _ _ _).trans (b5.trans a6)
            · exact b5.trans a6
        · rw [if_neg hb]
          refine ⟨⟨b1.end_ hv (-3), ?_, ?_, ?_, ?_⟩, Or.inl ((yL_end _ _ _).trans hL3), (yN_end _ _ _).trans (b5.trans a6)⟩
          · unfold KU
            rw [yK_end]
            exact ku3
          · intro p hp
            rw [yK_end] at hp
            rw [yA_end]
            exact ka3 p hp
          · intro p hp
            rw [yK_end] at hp
            exact kd3 p hp
          · rw [yL_end, hL3]
            exact l0
      · rw [if_neg hv]
        exact ⟨f3, Or.inl hL3, b5.trans a6⟩
