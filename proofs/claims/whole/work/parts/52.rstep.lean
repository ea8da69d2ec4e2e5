/-! The reference: step -/
theorem psi_le {ρ : mS} {y : Yd} {ls es : List (Int32 × Int32)} (h : RRw ρ y ls es) (q : InvQ y) : psi y ≤ 40 := by
  have h1 := h.A8 q
  have h2 := cC_le (yA y) (yF y 2)
  have h3 := h.2.2.2.2.2.2.2.1.length_eq
  have h4 := h.2.2.2.2.2.2.2.2.2.2.2
  unfold psi
  omega
theorem R_step {ρ : mS} {y : Yd} {ls : List (Int32 × Int32)} (h : RRw ρ y ls []) (q : Full y) (qc : CodeOk y) (hL : (yL y).toInt + 1002 < 2147483647) (hN : yN y < 2 ^ 31) (hov : OvI y) (tu : TU y) (hE : yE y = []) : Meets clR yX7_step (kX7_step :: wT) rX7_step [mR 20 0] ρ (fun o τ => o = some (mI (yStep y).2) ∧ ∃ ls', RRw τ (yStep y).1 ls' [] ∧ yE (yStep y).1 = []) := by
  refine Meets.of SX7_step rfl (by decide) rfl (Nat.le_of_ble_eq_true rfl) ?_
  intro J hJ
  have h5 := h.2.2.2.2.1
  cases hQ : yQ y with
  | nil =>
    have eS : yStep y = (y, 0) := by unfold yStep; rw [hQ]
    have z := h5.1
    rw [hQ] at z
    refine stp_j hJ 3 ⟨i20, _, z, fun h2 => absurd rfl h2, fun _ => ?_⟩
    refine stp_j hJ 2 ⟨?_, ls, ?_, ?_⟩
    · rw [eS]
    · rw [eS]; exact h
    · rw [eS]; exact hE
  | cons i l =>
    have eS : yStep y = (yTurn (ySettles 1000 (yPerf (setF y 4 i (yF y 4 i + 1)) i)) i, i) := by unfold yStep; rw [hQ]
    have hiQ : i ∈ yQ y := fst_q hQ
    have hiA : i ∈ yA y := q.1.1.2.2.1 i hiQ
    have hq8 := h5.2.1
    have hqp : 0 < (yQ y).length := by rw [hQ]; simp
    have hne : ¬ nI (yQ y).length = 0 := fun z => by
      have := (nI_eq (a := (yQ y).length) (b := 0) (by omega) (by decide)).mp z
      omega
    obtain ⟨st, hup⟩ := step_st q qc hL hQ
    refine stp_j hJ 3 ⟨i20, _, h5.1, fun _ => ?_, fun h2 => absurd hne h2⟩
    refine stp_j hJ 5 ⟨i20, i22 (by decide), 0, ix_nI (p := 0) (by decide) (by decide), _, h5.2.2 0 i (by rw [hQ]; rfl), ?_⟩
    refine stp_j hJ 3 ⟨trivial, ⟨i20, trivial⟩, _, r_find ρ i, ?_⟩
    rintro o τ ⟨w, rfl⟩
    have w := w.symm
    subst w
    rcases h.1.fd i with ⟨s, hs, e, hi, _, hp⟩ | ⟨e, hA⟩
    · rw [e]
      have hi0 : ¬ i = 0 := fun z => by rw [z] at hp; exact absurd hp (by decide)
      obtain ⟨a1, a2, a3, a4, a5, _⟩ := h.sl hs hi hi0
      refine stp_j hJ 6 ⟨i20, i22 (by decide), s, ix_nI hs (by decide), _, a1, ?_⟩
      refine stp_j hJ 10 ⟨i20, i20, i22 (by decide), s, ix_nI hs (by decide), _, a5, _, rfl, i22 (by decide), s, ix_nI hs (by decide), ?_⟩
      have g1 := h.tu hs hi hi0 (yF y 4 i + 1)
      have g1w := g1.2
      have g1 := g1.1
      have hi1 : (sI ρ 22 5 s (yF y 4 i + 1)).1 22 0 s = i := by rw [g1w]; exact hi
      have q1 : Full (setF y 4 i (yF y 4 i + 1)) := q.fld 4 i _
      have he1 : EE (setF y 4 i (yF y 4 i + 1)) [] := ⟨hE, fun e he => by cases he⟩
      have q2 : Full (yPerf (setF y 4 i (yF y 4 i + 1)) i) := q1.perf (by show (yL y).toInt < _; omega) hiQ
      have l2 := yL_perf (setF y 4 i (yF y 4 i + 1)) i
      have e1 : yL (setF y 4 i (yF y 4 i + 1)) = yL y := rfl
      rw [e1] at l2
      have b2 : (yL (yPerf (setF y 4 i (yF y 4 i + 1)) i)).toInt + 1000 < 2147483647 := by
        rcases l2 with e | e
        · rw [e]; omega
        · rw [e, toInt_succ (by omega)]; omega
      have n2 : yN (yPerf (setF y 4 i (yF y 4 i + 1)) i) = yN y := yN_perf _ _
      obtain ⟨q3, _, n3, _⟩ := settles_full 1000 _ q2 b2
      have hiL : i ≤ yL y := (q.1.2.2.2.2.2.2.1 i hiA).2
      have p2 := StR.perf (M := yL y) (y := setF y 4 i (yF y 4 i + 1)) q1.1.1.2.1 hiL q.2.2.2.2 qc
      have ov2 : OvI (yPerf (setF y 4 i (yF y 4 i + 1)) i) := by
        refine OvI.st (y := setF y 4 i (yF y 4 i + 1)) (fun j => ?_) p2 (i_up (by show (yL y).toInt < _; omega) l2)
        have : yF (setF y 4 i (yF y 4 i + 1)) 2 j = yF y 2 j := by
          show up2 (yF y) 4 i (yF y 4 i + 1) 2 j = _
          simp [up2]
        rw [this]
        exact hov j
      have ret : ∀ (τ : mS) (lv : mLv) (ls' : List (Int32 × Int32)), lget lv 1 = some (mI i) → RRw τ (yTurn (ySettles 1000 (yPerf (setF y 4 i (yF y 4 i + 1)) i)) i) ls' [] → yE (ySettles 1000 (yPerf (setF y 4 i (yF y 4 i + 1)) i)) = [] → J τ 147 [(0, mR 20 0), (1, mI i), (2, mI (nI s)), (3, mI (yF y 3 i))] [] := by
        intro τ lv ls' _ k1 k2
        refine stp_j hJ 2 ⟨?_, ls', ?_, ?_⟩
        · rw [eS]
        · rw [eS]; exact k1
        · rw [eS]
          show yE (yTurn _ i) = []
          rw [(turn_T _ i).2.2.2.1]; exact k2
      have tail : ∀ (τ : mS) (ls' : List (Int32 × Int32)), RRw τ (ySettles 1000 (yPerf (setF y 4 i (yF y 4 i + 1)) i)) ls' [] → yE (ySettles 1000 (yPerf (setF y 4 i (yF y 4 i + 1)) i)) = [] → (i ∈ yA (ySettles 1000 (yPerf (setF y 4 i (yF y 4 i + 1)) i)) → τ.1 22 0 s = i) → J τ 110 [(0, mR 20 0), (1, mI i), (2, mI (nI s)), (3, mI (yF y 3 i))] [] := by
        have h5le := done5 tu hiQ st
        revert q3 h5le ret
        generalize ySettles 1000 (yPerf (setF y 4 i (yF y 4 i + 1)) i) = Y
        intro q3 ret h5le τ ls' k1 k2 k3
        have r5 := k1.2.2.2.2.1
        have r8 := r5.2.1
        have go : yTurn Y i = Y → J τ 147 [(0, mR 20 0), (1, mI i), (2, mI (nI s)), (3, mI (yF y 3 i))] [] := fun z => ret τ [(1, mI i)] ls' rfl (by rw [z]; exact k1) k2
        cases hq2 : yQ Y with
        | nil =>
          have z := r5.1
          rw [hq2] at z
          refine stp_j hJ 3 ⟨i20, _, z, fun _ => go ?_, fun h2 => absurd (by decide) h2⟩
          rw [yTurn, hq2, if_neg (fun z => by cases z.1)]
        | cons j l2 =>
          have hpos : 0 < (yQ Y).length := by rw [hq2]; simp
          have hgt : ¬ nI (yQ Y).length ≤ 0 := nI_ge (a := 0) (b := (yQ Y).length) hpos (by omega)
          refine stp_j hJ 3 ⟨i20, _, r5.1, fun h2 => absurd h2 hgt, fun _ => ?_⟩
          refine stp_j hJ 6 ⟨i20, i22 (by decide), 0, ix_nI (p := 0) (by decide) (by decide), _, r5.2.2 0 j (by rw [hq2]; rfl), fun h2 => go ?_, fun h2 => ?_⟩
          · rw [yTurn, hq2, if_neg (fun z => h2 (by simpa using z.1))]
          · have hji : j = i := Decidable.not_not.mp h2
            subst hji
            have hjQ : j ∈ yQ Y := fst_q hq2
            have hjA : j ∈ yA Y := q3.1.1.2.2.1 j hjQ
            have hjs := k3 hjA
            obtain ⟨_, _, _, _, b5, _⟩ := k1.sl hs hjs hi0
            refine stp_j hJ 6 ⟨i20, i22 (by decide), s, ix_nI hs (by decide), _, b5, fun h3 => go ?_, fun h3 => ?_⟩
            · rw [yTurn, if_neg (fun z => h3 ((le5_eq h5le).mp z.2))]
            · have h3 : yF Y 4 j = 5 := Decidable.not_not.mp h3
              refine stp_j hJ 3 ⟨trivial, ⟨i20, trivial⟩, _, R_leave k1 q3.1.1.2.1 j, ?_⟩
              rintro o υ ⟨w, m1, m2⟩
              subst w
              have hjs2 : υ.1 22 0 s = j := by rw [m2]; exact hjs
              refine stp_j hJ 3 ⟨trivial, ⟨i20, trivial⟩, _, R_enqueue m1 (by show ((yQ Y).erase j).length < 8; rw [List.length_erase_of_mem hjQ]; omega) hs hjs2 hi0, ?_⟩
              rintro o φ ⟨w, n1, n2⟩
              subst w
              refine ret φ [(1, mI j)] ls' rfl ?_ k2
              rw [yTurn, hq2, if_pos ⟨rfl, (le5_eq h5le).mpr h3⟩, ← hq2]
              exact n1
      have mid : ∀ (τ : mS) (ls' ex : List (Int32 × Int32)), RRw τ (yPerf (setF y 4 i (yF y 4 i + 1)) i) ls' ex → EE (yPerf (setF y 4 i (yF y 4 i + 1)) i) ex → ex.length ≤ 1 → (∀ t, t < 8 → ¬ ρ.1 22 0 t = 0 → τ.1 22 0 t = ρ.1 22 0 t) → J τ 106 [(0, mR 20 0), (1, mI i), (2, mI (nI s)), (3, mI (yF y 3 i))] [] := by
        intro τ ls' ex k1 k2 k3 k4
        have hpsi := psi_le k1 q2.1.1
        refine stp_j hJ 2 ⟨trivial, ⟨i20, trivial⟩, _, R_settle k1 q2 (by omega) (by rw [n2]; exact hN) ov2 k2 (by omega), ?_⟩
        rintro o υ ⟨w, ls2, m1, m2, m3⟩
        subst w
        have hts : τ.1 22 0 s = i := by rw [k4 s hs (by rw [hi]; exact hi0)]; exact hi
        refine tail υ ls2 m1 m2 (fun hA => ?_)
        rw [m3 s hs (by rw [hts]; exact hi0) (by rw [hts]; exact hA)]
        exact hts
      have bad : ¬ (0 ≤ yF y 3 i ∧ yF y 3 i < 48 ∧ ¬ yC y 0 (yF y 3 i).toNatClampNeg = -1) → J (sI ρ 22 5 s (yF y 4 i + 1)) 99 [(0, mR 20 0), (1, mI i), (2, mI (nI s)), (3, mI (yF y 3 i))] [] := by
        intro hb
        have ep : yPerf (setF y 4 i (yF y 4 i + 1)) i = yEnd (setF y 4 i (yF y 4 i + 1)) i (-5) := by
          have e3 : yF (setF y 4 i (yF y 4 i + 1)) 3 i = yF y 3 i := by
            show up2 (yF y) 4 i (yF y 4 i + 1) 3 i = _
            simp [up2]
          rw [yPerf, e3, show yC (setF y 4 i (yF y 4 i + 1)) = yC y from rfl, if_neg hb]
        refine stp_j hJ 4 ⟨trivial, ⟨i20, trivial⟩, _, R_ends g1 (by decide) i (-5), ?_⟩
        rintro o τ ⟨w, k1, k2⟩
        subst w
        refine mid τ ls [(i, -5)] ?_ ?_ (Nat.le_refl _) (fun t _ _ => by rw [k2, g1w])
        · rw [ep, yEnd]
          split
          · exact k1
          · exact k1.vE _
        · rw [ep]; exact he1.end_ hiA hiL (-5)
      refine stp_j hJ 4 ⟨trivial, rfl, _, r_within _ (yF y 3 i) 0 47, ?_⟩
      rintro o τ ⟨w, hw⟩
      have w := w.symm
      subst w
      have l48 : yF y 3 i ≤ 47 ↔ yF y 3 i < 48 := le_lt 47 (by decide)
      rw [l48] at hw
      rcases hw with ⟨rfl, hw⟩ | ⟨rfl, hw⟩
      · refine stp_j hJ 1 ⟨fun h2 => absurd h2 (by decide), fun _ => ?_⟩
        obtain ⟨n, hn, en⟩ := nI_of (Int32.not_lt.mpr hw.1)
        have hn48 : n < 48 := by
          have := hw.2
          rw [en] at this
          exact (nI_ltI (a := n) (b := 48) hn (by decide)).mp this
        have hcl : (yF y 3 i).toNatClampNeg = n := by rw [en, nI_clamp hn]
        obtain ⟨c0, c1, c2⟩ := g1.2.2.1 n hn48
        have c0 : (sI ρ 22 5 s (yF y 4 i + 1)).1 21 0 n = yC y 0 n + 1 := c0
        have c1 : (sI ρ 22 5 s (yF y 4 i + 1)).1 21 1 n = yC y 1 n := c1
        have c2 : (sI ρ 22 5 s (yF y 4 i + 1)).1 21 2 n = yC y 2 n := c2
        rcases qc n hn48 with hc | hc
        · refine stp_j hJ 5 ⟨i20, i21 (by decide), n, (by rw [en]; exact ix_nI hn48 (by decide)), _, c0, fun _ => bad (fun z => z.2.2 (by rw [hcl]; exact hc)), fun h2 => absurd (by rw [hc]; decide) h2⟩
        · have hop1 := Int32.le_iff_toInt_le.mp hc.1
          have hop2 := Int32.le_iff_toInt_le.mp hc.2.1
          have e0 : (0 : Int32).toInt = 0 := rfl
          have e13 : (13 : Int32).toInt = 13 := rfl
          have hgt : ¬ yC y 0 n + 1 ≤ 0 := fun z => by
            have z := Int32.le_iff_toInt_le.mp z
            rw [toInt_succ (by omega)] at z
            omega
          have hne1 : ¬ yC y 0 n = -1 := fun z => by
            rw [z] at hop1
            exact absurd hop1 (by decide)
          refine stp_j hJ 5 ⟨i20, i21 (by decide), n, (by rw [en]; exact ix_nI hn48 (by decide)), _, c0, fun h2 => absurd h2 hgt, fun _ => ?_⟩
          have g2 := g1.at' hs hi1 hi0 (yF y 3 i + 1)
          have g2w := g2.2
          have g2 := g2.1
          have hi2 : (sI (sI ρ 22 5 s (yF y 4 i + 1)) 22 1 s (yF y 3 i + 1)).1 22 0 s = i := by rw [g2w]; exact hi1
          have d0 : (sI (sI ρ 22 5 s (yF y 4 i + 1)) 22 1 s (yF y 3 i + 1)).1 21 0 n = yC y 0 n + 1 := (g2.2.2.1 n hn48).1
          have d1 : (sI (sI ρ 22 5 s (yF y 4 i + 1)) 22 1 s (yF y 3 i + 1)).1 21 1 n = yC y 1 n := (g2.2.2.1 n hn48).2.1
          have d2 : (sI (sI ρ 22 5 s (yF y 4 i + 1)) 22 1 s (yF y 3 i + 1)).1 21 2 n = yC y 2 n := (g2.2.2.1 n hn48).2.2
          refine stp_j hJ 7 ⟨i20, _, rfl, i22 (by decide), s, ix_nI hs (by decide), ?_⟩
          have ep : yPerf (setF y 4 i (yF y 4 i + 1)) i = yAct (setF (setF y 4 i (yF y 4 i + 1)) 3 i (yF y 3 i + 1)) i (yC y 0 n) (yC y 1 n) (yC y 2 n) := by
            have e3 : yF (setF y 4 i (yF y 4 i + 1)) 3 i = yF y 3 i := by
              show up2 (yF y) 4 i (yF y 4 i + 1) 3 i = _
              simp [up2]
            rw [yPerf, e3, show yC (setF y 4 i (yF y 4 i + 1)) = yC y from rfl, if_pos ⟨hw.1, hw.2, by rw [hcl]; exact hne1⟩, hcl]
          have esub : yC y 0 n + 1 - 1 = yC y 0 n := by
            rw [Int32.sub_eq_add_neg, Int32.add_assoc]
            exact Int32.add_zero _
          refine stp_j hJ 17 ⟨i20, i21 (by decide), n, (by rw [en]; exact ix_nI hn48 (by decide)), _, d0, _, esub, i20, i21 (by decide), n, (by rw [en]; exact ix_nI hn48 (by decide)), _, d1, i20, i21 (by decide), n, (by rw [en]; exact ix_nI hn48 (by decide)), _, d2, trivial, ⟨i20, trivial⟩, _, R_act g2 ((q1).fld 3 i _) (by show (yL y).toInt < _; omega) (he1.of rfl rfl rfl) (by decide) hs hi2 hi0 hc, ?_⟩
          rintro o τ ⟨w, ls', ex, k1, k2, k3, k4⟩
          subst w
          rw [← ep] at k1 k2
          refine stp_j hJ 1 (mid τ ls' ex k1 k2 k3 (fun t ht h0 => ?_))
          have ew : (sI (sI ρ 22 5 s (yF y 4 i + 1)) 22 1 s (yF y 3 i + 1)).1 22 0 = ρ.1 22 0 := g2w.trans g1w
          rw [k4 t ht (by rw [ew]; exact h0), ew]
      · exact stp_j hJ 1 ⟨fun _ => bad (fun z => hw ⟨z.1, z.2.1⟩), fun h2 => absurd rfl h2⟩
    · exact absurd hiA hA
