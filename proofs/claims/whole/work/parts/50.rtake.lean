/-! The reference: take, link -/
theorem mIdx0 (id : Int32) : ∀ (ms : List (Int32 × Int32 × Int32)) (n : Nat), match ms.filter (fun m => m.1 == id) with
    | [] => mIdx id ms 0 n = none
    | m :: _ => ∃ p, mIdx id ms 0 n = some (n + p) ∧ ms[p]? = some m ∧ ms.eraseP (fun m => m.1 == id) = ms.eraseIdx p
  | [], n => rfl
  | a :: ms, n => by
    by_cases ha : a.1 = id
    · rw [List.filter_cons_of_pos (by simpa using ha), mIdx, if_pos ha, if_pos rfl]
      exact ⟨0, rfl, rfl, by rw [List.eraseP_cons_of_pos (by simpa using ha)]; rfl⟩
    · rw [List.filter_cons_of_neg (by simpa using ha), mIdx, if_neg ha]
      have ih := mIdx0 id ms (n + 1)
      revert ih
      cases hc : ms.filter (fun m => m.1 == id) with
      | nil => exact fun ih => ih
      | cons m l =>
        rintro ⟨p, e1, e2, e3⟩
        exact ⟨p + 1, by rw [e1]; congr 1; omega, by simpa using e2, by rw [List.eraseP_cons_of_neg (by simpa using ha), e3]; rfl⟩
theorem rg_nI {a : Nat} (ha : a < 4) : rg (nI a) = 8 + a := by rw [rg, nI_clamp (by omega)]
theorem le0_1 {b : Int32} : ¬ b ≤ 0 ↔ 1 ≤ b := by
  rw [Int32.le_iff_toInt_le, Int32.le_iff_toInt_le]
  have e0 : (0 : Int32).toInt = 0 := rfl
  have e1 : (1 : Int32).toInt = 1 := rfl
  omega
theorem R_take {ρ : mS} {y : Yd} {ls es : List (Int32 × Int32)} (h : RRw ρ y ls es) (q : InvQ y) {s : Nat} (hs : s < 8) {i : Int32} (hi : ρ.1 22 0 s = i) (hi0 : ¬ i = 0) {a : Nat} (ha : a < 4) (b : Int32) : Meets clR yX7_take (kX7_take :: wT) rX7_take [mR 20 0, mI (nI s), mI (nI a), mI b] ρ (fun o τ => o = none ∧ RRw τ (yTake y i (nI a) b) ls es ∧ τ.1 22 0 = ρ.1 22 0) := by
  refine Meets.of SX7_take rfl (by decide) rfl (Nat.le_of_ble_eq_true rfl) ?_
  intro J hJ
  have h6 := h.2.2.2.2.2.1
  have h12 := h.2.2.2.2.2.2.2.2.2.2.2
  have hm := mIdx0 i (yM y) 0
  refine stp_j hJ 7 ⟨i20, i22 (by decide), s, ix_nI hs (by decide), _, hi, trivial, ⟨i20, trivial⟩, _, r_mailAt h6 i 0, ?_⟩
  rintro o τ ⟨w, rfl⟩
  have w := w.symm
  subst w
  have ey : yTake y i (nI a) b = (match (yM y).filter (fun m => m.1 == i) with
    | m :: _ => vR (vM (setF (setF y 11 i m.2.1) (rg (nI a)) i m.2.2) ((yM y).eraseP (fun m => m.1 == i))) (yR y + 1)
    | [] => if 1 ≤ b then yClock (vQ (setB (setF y 3 i (yF y 3 i - 1)) 1 i true) ((yQ y).erase i)) i b 0 true else vQ (setB (setF y 3 i (yF y 3 i - 1)) 1 i true) ((yQ y).erase i)) := rfl
  revert hm
  cases hc : (yM y).filter (fun m => m.1 == i) with
  | nil =>
    intro hm
    have hm : mIdx i (yM y) 0 0 = none := hm
    rw [hm]
    rw [hc] at ey
    have ey : yTake y i (nI a) b = (if 1 ≤ b then yClock (vQ (setB (setF y 3 i (yF y 3 i - 1)) 1 i true) ((yQ y).erase i)) i b 0 true else vQ (setB (setF y 3 i (yF y 3 i - 1)) 1 i true) ((yQ y).erase i)) := ey
    obtain ⟨a1, _⟩ := h.sl hs hi hi0
    refine stp_j hJ 3 ⟨fun _ => ?_, fun h2 => absurd (by decide) h2⟩
    refine stp_j hJ 10 ⟨i20, i20, i22 (by decide), s, ix_nI hs (by decide), _, a1, _, rfl, i22 (by decide), s, ix_nI hs (by decide), ?_⟩
    have g1 := h.at' hs hi hi0 (yF y 3 i - 1)
    have hi1 : (sI ρ 22 1 s (yF y 3 i - 1)).1 22 0 s = i := by rw [g1.2]; exact hi
    refine stp_j hJ 5 ⟨i20, i23 (by decide), s, ix_nI hs (by decide), Or.inr rfl, ?_⟩
    have g2 := g1.1.bo hs hi1 hi0 (w := 1) (by decide) true
    have hi2 : (sI (sI ρ 22 1 s (yF y 3 i - 1)) 23 1 s (bI true)).1 22 0 s = i := by rw [g2.2]; exact hi1
    have g2w := g2.2.trans g1.2
    have g2 := g2.1
    revert hi2 g2 g2w
    have eb : bI true = 1 := rfl
    rw [eb]
    generalize sI (sI ρ 22 1 s (yF y 3 i - 1)) 23 1 s 1 = φ
    intro hi2 g2w g2
    refine stp_j hJ 6 ⟨i20, i22 (by decide), s, ix_nI hs (by decide), _, hi2, trivial, ⟨i20, trivial⟩, _, R_leave g2 q.2.1 i, ?_⟩
    rintro o τ ⟨w, g3, g3w⟩
    subst w
    have g3 : RRw τ (vQ (setB (setF y 3 i (yF y 3 i - 1)) 1 i true) ((yQ y).erase i)) ls es := g3
    have g3w := g3w.trans g2w
    have hi3 : τ.1 22 0 s = i := by rw [g3w]; exact hi
    refine stp_j hJ 2 ⟨fun h2 => ?_, fun h2 => ?_⟩
    · refine stp_j hJ 1 ⟨rfl, ?_, g3w⟩
      rw [ey, if_neg (fun z => le0_1.mpr z h2)]
      exact g3
    · refine stp_j hJ 9 ⟨i20, i22 (by decide), s, ix_nI hs (by decide), _, hi3, trivial, ⟨i20, trivial⟩, _, R_clock g3 i b 0 true, ?_⟩
      rintro o υ ⟨w, g4, g4w⟩
      subst w
      refine stp_j hJ 1 ⟨rfl, ?_, g4w.trans g3w⟩
      rw [ey, if_pos (le0_1.mp h2)]
      exact g4
  | cons m l =>
    rintro ⟨p, e1, e2, e3⟩
    rw [Nat.zero_add] at e1
    rw [e1]
    rw [hc] at ey
    have ey : yTake y i (nI a) b = vR (vM (setF (setF y 11 i m.2.1) (rg (nI a)) i m.2.2) ((yM y).eraseP (fun m => m.1 == i))) (yR y + 1) := ey
    have hpl : p < (yM y).length := (List.getElem?_eq_some_iff.mp e2).1
    have h24 := h6.2.1
    obtain ⟨m1, m2, m3⟩ := h6.2.2 p m e2
    refine stp_j hJ 3 ⟨fun h2 => absurd h2 (nI_pos (by omega)), fun _ => ?_⟩
    refine stp_j hJ 12 ⟨i20, _, nI_4 s, _, nI_add (4 * s) 3, i20, i25 (by decide), p, ix_nI (by omega) (by decide), _, m2, i24, 4 * s + 3, ix_nI (by omega) (by decide), ?_⟩
    have g1 := h.reg hs hi hi0 (r := 3) (by decide) m.2.1
    have hi1 : (sI ρ 24 0 (4 * s + 3) m.2.1).1 22 0 s = i := by rw [g1.2]; exact hi
    refine stp_j hJ 12 ⟨i20, _, nI_4 s, _, nI_add (4 * s) a, i20, i25 (by decide), p, ix_nI (by omega) (by decide), m.2.2, (by simp [u3]; exact m3), i24, 4 * s + a, ix_nI (by omega) (by decide), ?_⟩
    have g2 := g1.1.reg hs hi1 hi0 (r := a) ha m.2.2
    have g2w := g2.2.trans g1.2
    have g2 := g2.1
    revert g2 g2w
    generalize sI (sI ρ 24 0 (4 * s + 3) m.2.1) 24 0 (4 * s + a) m.2.2 = φ
    intro g2w g2
    have h6' : MlIs φ (yM y) := g2.2.2.2.2.2.1
    refine stp_j hJ 3 ⟨trivial, ⟨i20, trivial⟩, _, r_takeMail h6' hpl, ?_⟩
    rintro o τ ⟨w, f1, f2⟩
    subst w
    have g3 := g2.ml f1 (n := yR y + 1) f2 (by rw [List.length_eraseIdx_of_lt hpl]; omega)
    refine stp_j hJ 1 ⟨rfl, ?_, g3.2.trans g2w⟩
    rw [ey, e3, rg_nI ha]
    exact g3.1
theorem R_link {ρ : mS} {y : Yd} {ls es ds : List (Int32 × Int32)} (h : RRw ρ y ls es) (q : Full y) (he : EE y ds) (hl : es.length < 200) {s : Nat} (hs : s < 8) {i : Int32} (hi : ρ.1 22 0 s = i) (hi0 : ¬ i = 0) {a : Nat} (ha : a < 4) : Meets clR yX7_link (kX7_link :: wT) rX7_link [mR 20 0, mI (nI s), mI (nI a)] ρ (fun o τ => o = none ∧ ∃ ls' ex, RRw τ (yLink y i (nI a)) ls' (es ++ ex) ∧ EE (yLink y i (nI a)) (ds ++ ex) ∧ ex.length ≤ 1 ∧ τ.1 22 0 = ρ.1 22 0) := by
  refine Meets.of SX7_link rfl (by decide) rfl (Nat.le_of_ble_eq_true rfl) ?_
  intro J hJ
  obtain ⟨_, _, _, _, _, _, _, a8, _⟩ := h.sl hs hi hi0
  have h7 := h.2.2.2.2.2.2.1
  have h12 := h.2.2.2.2.2.2.2.2.2.2.2
  have hA : i ∈ yA y := by
    rcases h.1.1 s hs with z | z
    · exact absurd (hi.symm.trans z) hi0
    · rw [hi] at z
      exact z.1
  have hiL : i ≤ yL y := (q.1.2.2.2.2.2.2.1 i hA).2
  have ey : yLink y i (nI a) = (if ¬ yF y (8 + a) i ∈ yA y then yExit y i (yF y (8 + a) i) (-1)
    else if yF y (8 + a) i = i ∨ lkd y i (yF y (8 + a) i) = true then y
    else if yR y = 0 then setF y (8 + a) i (-1)
    else vK (vR y (yR y - 1)) (yK y ++ [(i, yF y (8 + a) i)])) := by rw [yLink, rg_nI ha]
  have same : yLink y i (nI a) = y → ∃ ls' ex, RRw ρ (yLink y i (nI a)) ls' (es ++ ex) ∧ EE (yLink y i (nI a)) (ds ++ ex) ∧ ex.length ≤ 1 ∧ ρ.1 22 0 = ρ.1 22 0 := fun z => ⟨ls, [], by rw [z, List.append_nil]; exact h, by rw [z, List.append_nil]; exact he, Nat.zero_le _, rfl⟩
  refine stp_j hJ 9 ⟨i20, _, nI_4 s, _, nI_add (4 * s) a, i24, 4 * s + a, ix_nI (by omega) (by decide), _, a8 a ha, ?_⟩
  refine stp_j hJ 6 ⟨i20, i22 (by decide), s, ix_nI hs (by decide), _, hi, fun h1 => ?_, fun h1 => ?_⟩
  · refine stp_j hJ 1 ⟨rfl, same ?_⟩
    have h1 : yF y (8 + a) i = i := h1
    rw [ey, if_neg (by rw [h1]; exact fun z => z hA), if_pos (Or.inl h1)]
  · refine stp_j hJ 7 ⟨i20, i22 (by decide), s, ix_nI hs (by decide), _, hi, trivial, ⟨i20, trivial⟩, _, r_linkAt h7 i (yF y (8 + a) i), ?_⟩
    rintro o τ ⟨w, rfl⟩
    have w := w.symm
    subst w
    have hk : lkd y i (yF y (8 + a) i) = ls.any (isK i (yF y (8 + a) i)) := (h.2.2.2.2.2.2.2.1.any_eq).symm
    have hany := lkL_any i (yF y (8 + a) i) ls 0 none
    cases hc : lkL i (yF y (8 + a) i) ls 0 none with
    | some p =>
      have z2 : lkd y i (yF y (8 + a) i) = true := by
        rw [hk]
        cases hz : ls.any (isK i (yF y (8 + a) i)) with
        | true => rfl
        | false => rw [hany.mpr ⟨hz, rfl⟩] at hc; cases hc
      have hm : yF y (8 + a) i ∈ yA y := by
        obtain ⟨p2, hp2, hp3⟩ := List.any_eq_true.mp z2
        have hp4 := q.2.2.1 p2 hp2
        rcases isK_iff.mp hp3 with z | z
        · rw [← z.2]; exact hp4.2
        · rw [← z.1]; exact hp4.1
      refine stp_j hJ 1 ⟨fun h5 => ?_, fun _ => ?_⟩
      · rcases lkL_at i (yF y (8 + a) i) ls 0 none p hc with z | ⟨j, q, e1, e3, _⟩
        · cases z
        · have hj : j < ls.length := (List.getElem?_eq_some_iff.mp e3).1
          have h24 := h7.2.1
          exact absurd h5 (nI_pos (by omega))
      · refine stp_j hJ 1 ⟨rfl, same ?_⟩
        rw [ey, if_neg (fun z => z hm), if_pos (Or.inr z2)]
    | none =>
      have z2 : ¬ lkd y i (yF y (8 + a) i) = true := by
        rw [hk, (hany.mp hc).1]
        decide
      refine stp_j hJ 1 ⟨fun _ => ?_, fun h5 => absurd (by decide) h5⟩
      refine stp_j hJ 3 ⟨trivial, ⟨i20, trivial⟩, _, r_find ρ (yF y (8 + a) i), ?_⟩
      rintro o τ ⟨w, rfl⟩
      have w := w.symm
      subst w
      rcases h.1.fd (yF y (8 + a) i) with ⟨u, hu, e, _, hA2, _⟩ | ⟨e, hA2⟩
      · rw [e]
        refine stp_j hJ 1 ⟨fun _ => ?_, fun h2 => absurd (nI_pos' (by omega)) h2⟩
        refine stp_j hJ 2 ⟨trivial, ⟨i20, trivial⟩, _, R_freeCells h, ?_⟩
        rintro o τ ⟨w, rfl⟩
        have w := w.symm
        subst w
        by_cases hR : yR y = 0
        · refine stp_j hJ 1 ⟨fun h2 => absurd (by rw [hR]; rfl) h2, fun _ => ?_⟩
          refine stp_j hJ 9 ⟨i20, _, nI_4 s, _, nI_add (4 * s) a, i24, 4 * s + a, ix_nI (by omega) (by decide), ?_⟩
          have g1 := h.reg hs hi hi0 (r := a) ha (-1)
          have e2 : yLink y i (nI a) = setF y (8 + a) i (-1) := by rw [ey, if_neg (fun z => z hA2), if_neg (fun z => z.elim h1 z2), if_pos hR]
          refine stp_j hJ 2 ⟨rfl, ls, [], ?_, ?_, Nat.zero_le _, g1.2⟩
          · rw [e2, List.append_nil]; exact g1.1
          · rw [e2, List.append_nil]; exact he
        · have hne : ¬ nI (yR y) = 0 := fun z => hR ((nI_eq (a := yR y) (b := 0) (by omega) (by decide)).mp z)
          refine stp_j hJ 1 ⟨fun _ => ?_, fun h2 => absurd hne h2⟩
          have e2 : yLink y i (nI a) = vK (vR y (yR y - 1)) (yK y ++ [(i, yF y (8 + a) i)]) := by rw [ey, if_neg (fun z => z hA2), if_neg (fun z => z.elim h1 z2), if_neg hR]
          refine stp_j hJ 9 ⟨i20, i20, _, h7.1, i20, i22 (by decide), s, ix_nI hs (by decide), _, hi, i25 (by decide), ls.length, ix_nI (by omega) (by decide), ?_⟩
          refine stp_j hJ 6 ⟨i20, i20, _, (by simp [u3]; exact h7.1), i25 (by decide), ls.length, ix_nI (by omega) (by decide), ?_⟩
          have f : Fr qLk ρ (sI (sI (sI ρ 25 4 ls.length i) 25 5 ls.length (yF y (8 + a) i)) 20 0 22 (nI (ls.length + 1))) := ((Fr.oI (by simp [qLk])).andI (by simp [qLk])).andI (by simp [qLk])
          have hc2 : LkIs (sI (sI (sI ρ 25 4 ls.length i) 25 5 ls.length (yF y (8 + a) i)) 20 0 22 (nI (ls.length + 1))) (ls ++ [(i, yF y (8 + a) i)]) := by
            refine ⟨by simp [u3], by simp; omega, fun p x hp => ?_⟩
            by_cases hpl : p < ls.length
            · rw [List.getElem?_append_left hpl] at hp
              have := h7.2.2 p x hp
              have hne : ¬ p = ls.length := by omega
              simp [u3, hne, this]
            · have hpe : p = ls.length := by
                have := (List.getElem?_eq_some_iff.mp hp).1
                simp at this
                omega
              subst hpe
              simp at hp
              subst hp
              simp [u3]
          have g1 := h.lk f (n := yR y - 1) (ks := yK y ++ [(i, yF y (8 + a) i)]) hc2 (h.2.2.2.2.2.2.2.1.append_right _) (by simp; omega)
          refine stp_j hJ 6 ⟨i20, nI ls.length, (by simp [u3]; exact h7.1), _, nI_1 ls.length, i20, ?_⟩
          refine stp_j hJ 1 ⟨rfl, ls ++ [(i, yF y (8 + a) i)], [], ?_, ?_, Nat.zero_le _, g1.2⟩
          · rw [e2, List.append_nil]; exact g1.1
          · rw [e2, List.append_nil]; exact he
      · rw [e]
        refine stp_j hJ 1 ⟨fun h2 => absurd h2 (by decide), fun _ => ?_⟩
        refine stp_j hJ 5 ⟨trivial, ⟨i20, trivial⟩, _, R_exit h hl (h.hq q.1.1) hs hi hi0 (yF y (8 + a) i) (-1), ?_⟩
        rintro o τ ⟨w, g1, g2⟩
        subst w
        have e2 : yLink y i (nI a) = yExit y i (yF y (8 + a) i) (-1) := by rw [ey, if_pos hA2]
        rw [exE_x] at g1
        refine stp_j hJ 2 ⟨rfl, ls, exX y i (-1), ?_, ?_, exX_len _ _ _, g2⟩
        · rw [e2]; exact g1
        · rw [e2]; exact he.exit hA hiL _ _
