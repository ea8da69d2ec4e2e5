/-! The reference: register -/
theorem q_register {ρ : mS} {y : Yd} {ls es : List (Int32 × Int32)} (h : RRw ρ y ls es) (d r : Int32) : Meets clR yX7_register (kX7_register :: wT) rX7_register [mR 20 0, mI d, mI r] ρ (fun o τ => τ = ρ ∧ o = some (mI (aRegister y d r))) := by
  refine Meets.of SX7_register rfl (by decide) rfl (Nat.le_of_ble_eq_true rfl) ?_
  intro J hJ
  refine stp_j hJ 3 ⟨trivial, ⟨i20, trivial⟩, _, r_find ρ d, ?_⟩
  rintro o τ ⟨w, rfl⟩
  have w := w.symm
  subst w
  rcases h.1.fd d with ⟨s, hs, e, hi, hA, hp⟩ | ⟨e, hA⟩
  · rw [e]
    refine stp_j hJ 3 ⟨fun h2 => absurd h2 (nI_pos (by omega)), fun _ => ?_⟩
    refine stp_j hJ 4 ⟨trivial, rfl, _, r_within ρ r 0 3, ?_⟩
    rintro o τ ⟨w, hw⟩
    have w := w.symm
    subst w
    rcases hw with ⟨rfl, hw⟩ | ⟨rfl, hw⟩
    · refine stp_j hJ 1 ⟨fun h2 => absurd h2 (by decide), fun _ => ?_⟩
      obtain ⟨j, hj, rfl⟩ := nI_of2 (M := 3) (n := 3) (by decide) (Int32.not_lt.mpr hw.1) hw.2
      refine stp_j hJ 10 ⟨i20, _, nI_4 s, _, nI_add _ _, i24, 4 * s + j, ix_nI (by omega) (by decide), _, (h.sl hs hi (pos_ne hp)).2.2.2.2.2.2.2.1 j (by omega), rfl, ?_⟩
      rw [aRegister, if_pos ⟨hA, hw.1, nI_lt (a := j) (b := 4) (by omega) (by decide)⟩, rg, nI_clamp (by omega)]
    · refine stp_j hJ 1 ⟨fun _ => ?_, fun h2 => absurd rfl h2⟩
      refine stp_j hJ 2 ⟨rfl, ?_⟩
      rw [aRegister, if_neg]
      rintro ⟨_, z1, z2⟩
      refine hw ⟨z1, ?_⟩
      obtain ⟨j, hj, rfl⟩ := nI_of (Int32.not_lt.mpr z1)
      have := (nI_ltI (a := j) (b := 4) hj (by decide)).mp z2
      exact nI_le (a := j) (b := 3) (by omega) (by decide)
  · rw [e]
    refine stp_j hJ 3 ⟨fun _ => ?_, fun h2 => absurd (by decide) h2⟩
    refine stp_j hJ 2 ⟨rfl, ?_⟩
    rw [aRegister, if_neg (fun z => hA z.1)]
