/-! The reference: public reads -/
theorem q_room {ρ : mS} {y : Yd} {ls es : List (Int32 × Int32)} (h : RRw ρ y ls es) : Meets clR yX7_room (kX7_room :: wT) rX7_room [mR 20 0] ρ (fun r τ => τ = ρ ∧ r = some (mI (nI (yR y)))) := by
  refine Meets.of SX7_room rfl (by decide) rfl (Nat.le_of_ble_eq_true rfl) ?_
  intro J hJ
  refine stp_j hJ 2 ⟨trivial, ⟨i20, trivial⟩, _, R_freeCells h, ?_⟩
  rintro o τ ⟨w, rfl⟩
  have w := w.symm
  subst w
  exact stp_j hJ 1 ⟨rfl, rfl⟩
theorem q_lost {ρ : mS} {y : Yd} {ls es : List (Int32 × Int32)} (h : RRw ρ y ls es) : Meets clR yX7_lost (kX7_lost :: wT) rX7_lost [mR 20 0] ρ (fun r τ => τ = ρ ∧ r = some (mI (yX y))) := by
  refine Meets.of SX7_lost rfl (by decide) rfl (Nat.le_of_ble_eq_true rfl) ?_
  intro J hJ
  exact stp_j hJ 3 ⟨i20, _, h.2.2.2.1.2.2, rfl, rfl⟩
theorem q_timers {ρ : mS} {y : Yd} {ls es : List (Int32 × Int32)} (h : RRw ρ y ls es) : Meets clR yX7_timers (kX7_timers :: wT) rX7_timers [mR 20 0] ρ (fun r τ => τ = ρ ∧ r = some (mI (nI (yT y).length))) := by
  refine Meets.of SX7_timers rfl (by decide) rfl (Nat.le_of_ble_eq_true rfl) ?_
  intro J hJ
  have h9 := h.2.2.2.2.2.2.2.2.1.1
  rw [List.length_map] at h9
  exact stp_j hJ 3 ⟨i20, _, h9, rfl, rfl⟩
theorem pos_ne {i : Int32} (h : 0 < i) : ¬ i = 0 := by
  intro z
  rw [z] at h
  exact absurd h (by decide)
theorem q_place {ρ : mS} {y : Yd} {ls es : List (Int32 × Int32)} (h : RRw ρ y ls es) (d : Int32) : Meets clR yX7_place (kX7_place :: wT) rX7_place [mR 20 0, mI d] ρ (fun o τ => τ = ρ ∧ o = some (mI (aField y 3 d))) := by
  refine Meets.of SX7_place rfl (by decide) rfl (Nat.le_of_ble_eq_true rfl) ?_
  intro J hJ
  refine stp_j hJ 3 ⟨trivial, ⟨i20, trivial⟩, _, r_find ρ d, ?_⟩
  rintro o τ ⟨w, rfl⟩
  have w := w.symm
  subst w
  rcases h.1.fd d with ⟨s, hs, e, hi, hA, hp⟩ | ⟨e, hA⟩
  · rw [e]
    refine stp_j hJ 3 ⟨fun _ => ?_, fun h2 => absurd (nI_pos' (by omega)) h2⟩
    refine stp_j hJ 5 ⟨i20, i22 (by decide), s, ix_nI hs (by decide), _, (h.sl hs hi (pos_ne hp)).1, rfl, ?_⟩
    rw [aField, if_pos hA]
  · rw [e]
    refine stp_j hJ 3 ⟨fun h2 => absurd h2 (by decide), fun _ => ?_⟩
    refine stp_j hJ 3 ⟨rfl, ?_⟩
    rw [aField, if_neg hA]
theorem q_restarts {ρ : mS} {y : Yd} {ls es : List (Int32 × Int32)} (h : RRw ρ y ls es) (d : Int32) : Meets clR yX7_restarts (kX7_restarts :: wT) rX7_restarts [mR 20 0, mI d] ρ (fun o τ => τ = ρ ∧ o = some (mI (aField y 5 d))) := by
  refine Meets.of SX7_restarts rfl (by decide) rfl (Nat.le_of_ble_eq_true rfl) ?_
  intro J hJ
  refine stp_j hJ 3 ⟨trivial, ⟨i20, trivial⟩, _, r_find ρ d, ?_⟩
  rintro o τ ⟨w, rfl⟩
  have w := w.symm
  subst w
  rcases h.1.fd d with ⟨s, hs, e, hi, hA, hp⟩ | ⟨e, hA⟩
  · rw [e]
    obtain ⟨b, _, hb1, hb2, _⟩ := (h.sl hs hi (pos_ne hp)).2.2.2.2.2.2.2.2
    refine stp_j hJ 3 ⟨fun _ => ?_, fun h2 => absurd (nI_pos' (by omega)) h2⟩
    refine stp_j hJ 5 ⟨i20, i22 (by decide), s, ix_nI hs (by decide), _, hb1, rfl, ?_⟩
    rw [aField, if_pos hA, hb2]
  · rw [e]
    refine stp_j hJ 3 ⟨fun h2 => absurd h2 (by decide), fun _ => ?_⟩
    refine stp_j hJ 3 ⟨rfl, ?_⟩
    rw [aField, if_neg hA]
