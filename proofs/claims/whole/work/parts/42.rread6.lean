/-! The reference: output -/
theorem q_output {ρ : mS} {y : Yd} {ls es : List (Int32 × Int32)} (h : RRw ρ y ls es) (k : Int32) : Meets clR yX7_output (kX7_output :: wT) rX7_output [mR 20 0, mI k] ρ (fun o τ => τ = ρ ∧ o = some (mI (aOutput y k))) := by
  refine Meets.of SX7_output rfl (by decide) rfl (Nat.le_of_ble_eq_true rfl) ?_
  intro J hJ
  have h5 := h.2.2.2.2.2.2.2.2.2.1
  have h8 := h5.2.1
  refine stp_j hJ 3 ⟨fun h1 => ?_, fun h1 => ?_⟩
  · refine stp_j hJ 7 ⟨i20, _, h5.1, _, rfl, trivial, rfl, _, r_within ρ k 0 _, ?_⟩
    rintro o τ ⟨w, hw⟩
    have w := w.symm
    subst w
    rcases hw with ⟨rfl, hw⟩ | ⟨rfl, hw⟩
    · refine stp_j hJ 1 ⟨fun h2 => absurd h2 (by decide), fun _ => ?_⟩
      obtain ⟨j, hj, rfl⟩ := wn_ix (by omega) hw
      have hx : (yO y)[j]? = some (yO y)[j] := List.getElem?_eq_getElem hj
      refine stp_j hJ 6 ⟨i20, i28 (by decide), j, ix_nI (by omega) (by decide), _, (h5.2.2 j _ hx).1, rfl, ?_⟩
      rw [aOutput, if_neg h1, if_neg (nI_pos (by omega)), nI_clamp (by omega), hx]
    · refine stp_j hJ 1 ⟨fun _ => ?_, fun h2 => absurd rfl h2⟩
      refine stp_j hJ 2 ⟨rfl, ?_⟩
      rw [aOutput, if_neg h1]
      split
      · rfl
      · rename_i hk
        rw [List.getElem?_eq_none (wn_no (by omega) hw hk rfl)]
  · refine stp_j hJ 4 ⟨i20, _, h5.1, rfl, ?_⟩
    rw [aOutput, if_pos (Decidable.not_not.mp h1)]
