/-! The reference: mail, linked -/
theorem q_mail {ρ : mS} {y : Yd} {ls es : List (Int32 × Int32)} (h : RRw ρ y ls es) (d : Int32) : Meets clR yX7_mail (kX7_mail :: wT) rX7_mail [mR 20 0, mI d] ρ (fun o τ => τ = ρ ∧ o = some (mI (aMail y d))) := by
  refine Meets.of SX7_mail rfl (by decide) rfl (Nat.le_of_ble_eq_true rfl) ?_
  intro J hJ
  have h6 := h.2.2.2.2.2.1
  have h8 := h6.2.1
  refine stp_j hJ 3 ⟨trivial, ⟨i20, trivial⟩, _, r_find ρ d, ?_⟩
  rintro o τ ⟨w, rfl⟩
  have w := w.symm
  subst w
  rcases h.1.fd d with ⟨s, hs, e, hi, hA, hp⟩ | ⟨e, hA⟩
  · rw [e]
    refine stp_j hJ 1 ⟨fun _ => ?_, fun h2 => absurd (nI_pos' (by omega)) h2⟩
    have loop : ∀ (rest : List (Int32 × Int32 × Int32)) (n c : Nat), n < 2 ^ 31 → (yM y).drop n = rest → (mbx y d).length = c + (rest.filter (fun m => m.1 == d)).length → J ρ 15 [(0, mR 20 0), (1, mI d), (2, mI (nI c)), (3, mI (nI n))] [] := by
      intro rest
      induction rest with
      | nil =>
        intro n c hb hn hf
        have hge : (yM y).length ≤ n := List.drop_eq_nil_iff.mp hn
        refine stp_j hJ 4 ⟨i20, _, h6.1, fun h2 => ?_, fun h2 => ?_⟩
        · refine stp_j hJ 2 ⟨rfl, ?_⟩
          rw [aMail, if_pos hA, hf]
          rfl
        · exact absurd (nI_le hge hb) h2
      | cons a rest ih =>
        intro n c hb hn hf
        have hlt : n < (yM y).length := by
          have := congrArg List.length hn
          simp at this
          omega
        have hx : (yM y)[n]? = some a := by
          have := congrArg (fun z => z[0]?) hn
          simpa using this
        have hdr : (yM y).drop (n + 1) = rest := by
          rw [← List.drop_drop, hn]
          rfl
        refine stp_j hJ 4 ⟨i20, _, h6.1, fun h2 => ?_, fun h2 => ?_⟩
        · exact absurd h2 (nI_ge hlt (by omega))
        · refine stp_j hJ 6 ⟨i20, i25 (by decide), n, ix_nI (by omega) (by decide), _, (h6.2.2 n a hx).1, fun h3 => ?_, fun h3 => ?_⟩
          · refine stp_j hJ 4 ⟨_, nI_1 n, ih (n + 1) c (by omega) hdr ?_⟩
            rw [hf, List.filter_cons_of_neg (by simpa using h3)]
          · refine stp_j hJ 7 ⟨_, nI_1 c, _, nI_1 n, ih (n + 1) (c + 1) (by omega) hdr ?_⟩
            rw [hf, List.filter_cons_of_pos (by simpa using h3), List.length_cons]
            omega
    exact stp_j hJ 4 (loop (yM y) 0 0 (by decide) rfl (by rw [mbx]; omega))
  · rw [e]
    refine stp_j hJ 1 ⟨fun h2 => absurd h2 (by decide), fun _ => ?_⟩
    refine stp_j hJ 2 ⟨rfl, ?_⟩
    rw [aMail, if_neg hA]
theorem q_linked {ρ : mS} {y : Yd} {ls es : List (Int32 × Int32)} (h : RRw ρ y ls es) (d o : Int32) : Meets clR yX7_linked (kX7_linked :: wT) rX7_linked [mR 20 0, mI d, mI o] ρ (fun r τ => τ = ρ ∧ yes (aLinked y d o) r) := by
  refine Meets.of SX7_linked rfl (by decide) rfl (Nat.le_of_ble_eq_true rfl) ?_
  intro J hJ
  refine stp_j hJ 3 ⟨trivial, ⟨i20, trivial⟩, _, r_find ρ d, ?_⟩
  rintro o1 τ ⟨w, rfl⟩
  have w := w.symm
  subst w
  rcases h.1.fd d with ⟨s, hs, e, hi, hA, hp⟩ | ⟨e, hA⟩
  · rw [e]
    refine stp_j hJ 1 ⟨fun h2 => absurd h2 (nI_pos (by omega)), fun _ => ?_⟩
    refine stp_j hJ 3 ⟨trivial, ⟨i20, trivial⟩, _, r_find ρ o, ?_⟩
    rintro o1 τ ⟨w, rfl⟩
    have w := w.symm
    subst w
    rcases h.1.fd o with ⟨t, ht, e2, _, hA2, _⟩ | ⟨e2, hA2⟩
    · rw [e2]
      refine stp_j hJ 1 ⟨fun h2 => absurd h2 (nI_pos (by omega)), fun _ => ?_⟩
      refine stp_j hJ 4 ⟨trivial, ⟨i20, trivial⟩, _, r_linkAt h.2.2.2.2.2.2.1 d o, ?_⟩
      rintro o1 τ ⟨w, rfl⟩
      have w := w.symm
      subst w
      have hk : lkd y d o = ls.any (isK d o) := (h.2.2.2.2.2.2.2.1.any_eq).symm
      have ha := lkL_any d o ls 0 none
      cases hc : lkL d o ls 0 none with
      | none =>
        refine stp_j hJ 1 ⟨fun _ => ?_, fun h5 => absurd (by decide) h5⟩
        refine stp_j hJ 2 ⟨Or.inl rfl, rfl, Or.inr ⟨rfl, fun z => ?_⟩⟩
        have z2 := z.2.2
        rw [hk, (ha.mp hc).1] at z2
        exact absurd z2 (by decide)
      | some p =>
        have z2 : lkd y d o = true := by
          rw [hk]
          cases hz : ls.any (isK d o) with
          | true => rfl
          | false => rw [ha.mpr ⟨hz, rfl⟩] at hc; cases hc
        refine stp_j hJ 1 ⟨fun h5 => ?_, fun _ => ?_⟩
        · rcases lkL_at d o ls 0 none p hc with z | ⟨j, q, e1, e3, _⟩
          · cases z
          · have hj : j < ls.length := (List.getElem?_eq_some_iff.mp e3).1
            have h24 := h.2.2.2.2.2.2.1.2.1
            exact absurd h5 (nI_pos (by omega))
        · exact stp_j hJ 3 ⟨Or.inr rfl, rfl, Or.inl ⟨rfl, hA, hA2, z2⟩⟩
    · rw [e2]
      refine stp_j hJ 1 ⟨fun _ => ?_, fun h5 => absurd (by decide) h5⟩
      exact stp_j hJ 2 ⟨Or.inl rfl, rfl, Or.inr ⟨rfl, fun z => hA2 z.2.1⟩⟩
  · rw [e]
    refine stp_j hJ 1 ⟨fun _ => ?_, fun h5 => absurd (by decide) h5⟩
    exact stp_j hJ 2 ⟨Or.inl rfl, rfl, Or.inr ⟨rfl, fun z => hA z.1⟩⟩
