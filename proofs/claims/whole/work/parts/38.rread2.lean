/-! The reference: supervisor, status -/
theorem q_supervisor {ρ : mS} {y : Yd} {ls es : List (Int32 × Int32)} (h : RRw ρ y ls es) (d : Int32) : Meets clR yX7_supervisor (kX7_supervisor :: wT) rX7_supervisor [mR 20 0, mI d] ρ (fun o τ => τ = ρ ∧ o = some (mI (aSup y d))) := by
  refine Meets.of SX7_supervisor rfl (by decide) rfl (Nat.le_of_ble_eq_true rfl) ?_
  intro J hJ
  refine stp_j hJ 3 ⟨trivial, ⟨i20, trivial⟩, _, r_find ρ d, ?_⟩
  rintro o τ ⟨w, rfl⟩
  have w := w.symm
  subst w
  rcases h.1.fd d with ⟨s, hs, e, hi, hA, hp⟩ | ⟨e, hA⟩
  · rw [e]
    have hab := (h.sl hs hi (pos_ne hp)).2.2.2.1
    refine stp_j hJ 3 ⟨fun _ => ?_, fun h2 => absurd (nI_pos' (by omega)) h2⟩
    refine stp_j hJ 6 ⟨i20, i22 (by decide), s, ix_nI hs (by decide), _, hab, trivial, ⟨i20, trivial⟩, _, r_find ρ (yF y 2 d), ?_⟩
    rintro o τ ⟨w, rfl⟩
    have w := w.symm
    subst w
    rcases h.1.fd (yF y 2 d) with ⟨t, ht, e2, _, hA2, _⟩ | ⟨e2, hA2⟩
    · rw [e2]
      refine stp_j hJ 1 ⟨fun _ => ?_, fun h2 => absurd (nI_pos' (by omega)) h2⟩
      refine stp_j hJ 5 ⟨i20, i22 (by decide), s, ix_nI hs (by decide), _, hab, rfl, ?_⟩
      rw [aSup, if_pos hA, if_pos hA2]
    · rw [e2]
      refine stp_j hJ 1 ⟨fun h2 => absurd h2 (by decide), fun _ => ?_⟩
      refine stp_j hJ 3 ⟨rfl, ?_⟩
      rw [aSup, if_pos hA, if_neg hA2]
  · rw [e]
    refine stp_j hJ 3 ⟨fun h2 => absurd h2 (by decide), fun _ => ?_⟩
    refine stp_j hJ 3 ⟨rfl, ?_⟩
    rw [aSup, if_neg hA]
theorem q_status {ρ : mS} {y : Yd} {ls es : List (Int32 × Int32)} (h : RRw ρ y ls es) (d : Int32) : Meets clR yX7_status (kX7_status :: wT) rX7_status [mR 20 0, mI d] ρ (fun o τ => τ = ρ ∧ o = some (mI (aStatus y d))) := by
  refine Meets.of SX7_status rfl (by decide) rfl (Nat.le_of_ble_eq_true rfl) ?_
  intro J hJ
  refine stp_j hJ 5 ⟨i20, _, h.2.2.2.1.1, trivial, rfl, _, r_within ρ d 1 (yL y), ?_⟩
  rintro o τ ⟨w, hw⟩
  have w := w.symm
  subst w
  rcases hw with ⟨rfl, hw⟩ | ⟨rfl, hw⟩
  · have hno : ¬ (d < 1 ∨ yL y < d) := fun z => z.elim (fun q => absurd q (Int32.not_lt.mpr hw.1)) (fun q => absurd q (Int32.not_lt.mpr hw.2))
    refine stp_j hJ 1 ⟨fun _ => ?_, fun h2 => absurd (by decide) h2⟩
    refine stp_j hJ 3 ⟨trivial, ⟨i20, trivial⟩, _, r_find ρ d, ?_⟩
    rintro o τ ⟨w, rfl⟩
    have w := w.symm
    subst w
    rcases h.1.fd d with ⟨s, hs, e, hi, hA, hp⟩ | ⟨e, hA⟩
    · rw [e]
      have hb := (h.sl hs hi (pos_ne hp)).2.2.2.2.2.2.1
      refine stp_j hJ 3 ⟨fun _ => ?_, fun h2 => absurd (nI_pos' (by omega)) h2⟩
      refine stp_j hJ 5 ⟨i20, i23 (by decide), s, ix_nI hs (by decide), _, hb, fun h3 => ?_, fun h3 => ?_⟩
      · refine stp_j hJ 2 ⟨rfl, ?_⟩
        have hz : ¬ yB y 1 d = true := by
          intro hz
          rw [hz] at h3
          exact absurd h3 (by decide)
        rw [aStatus, if_neg hno, if_pos hA, if_neg hz]
      · refine stp_j hJ 3 ⟨rfl, ?_⟩
        have hz : yB y 1 d = true := by
          cases hz : yB y 1 d with
          | true => rfl
          | false => rw [hz] at h3; exact absurd rfl h3
        rw [aStatus, if_neg hno, if_pos hA, if_pos hz]
    · rw [e]
      refine stp_j hJ 3 ⟨fun h2 => absurd h2 (by decide), fun _ => ?_⟩
      refine stp_j hJ 3 ⟨rfl, ?_⟩
      rw [aStatus, if_neg hno, if_neg hA]
  · refine stp_j hJ 1 ⟨fun h2 => absurd rfl h2, fun _ => ?_⟩
    refine stp_j hJ 2 ⟨rfl, ?_⟩
    have hyes : d < 1 ∨ yL y < d := by
      by_cases q : d < 1
      · exact Or.inl q
      · exact Or.inr (Int32.not_le.mp (fun z => hw ⟨Int32.not_lt.mp q, z⟩))
    rw [aStatus, if_pos hyes]
