/-! The reference: queue, author -/
theorem sub1 {n : Nat} (h : n < 2 ^ 31) : (nI n - 1).toInt = (n : Int) - 1 := by
  rw [Int32.toInt_sub, nI_toInt h]
  exact Int.bmod_eq_of_le (by simp; omega) (by simp; omega)
theorem wn_ix {k : Int32} {n : Nat} (hn : n < 2 ^ 31) (h : 0 ≤ k ∧ k ≤ nI n - 1) : ∃ j, j < n ∧ k = nI j := by
  obtain ⟨j, hj, rfl⟩ := nI_of (Int32.not_lt.mpr h.1)
  refine ⟨j, ?_, rfl⟩
  have := Int32.le_iff_toInt_le.mp h.2
  rw [sub1 hn, nI_toInt hj] at this
  omega
theorem wn_no {k : Int32} {n j : Nat} (hn : n < 2 ^ 31) (h : ¬ (0 ≤ k ∧ k ≤ nI n - 1)) (hk : ¬ k < 0) (hj : k.toNatClampNeg = j) : n ≤ j := by
  obtain ⟨i, hi, rfl⟩ := nI_of hk
  rw [nI_clamp hi] at hj
  subst hj
  refine Nat.not_lt.mp (fun z => h ⟨nI_pos' hi, Int32.le_iff_toInt_le.mpr ?_⟩)
  rw [sub1 hn, nI_toInt hi]
  omega
theorem q_queue {ρ : mS} {y : Yd} {ls es : List (Int32 × Int32)} (h : RRw ρ y ls es) (k : Int32) : Meets clR yX7_queue (kX7_queue :: wT) rX7_queue [mR 20 0, mI k] ρ (fun o τ => τ = ρ ∧ o = some (mI (aQueue y k))) := by
  refine Meets.of SX7_queue rfl (by decide) rfl (Nat.le_of_ble_eq_true rfl) ?_
  intro J hJ
  have h5 := h.2.2.2.2.1
  have h8 := h5.2.1
  refine stp_j hJ 7 ⟨i20, _, h5.1, _, rfl, trivial, rfl, _, r_within ρ k 0 _, ?_⟩
  rintro o τ ⟨w, hw⟩
  have w := w.symm
  subst w
  rcases hw with ⟨rfl, hw⟩ | ⟨rfl, hw⟩
  · refine stp_j hJ 1 ⟨fun h2 => absurd h2 (by decide), fun _ => ?_⟩
    obtain ⟨j, hj, rfl⟩ := wn_ix (by omega) hw
    have hx : (yQ y)[j]? = some (yQ y)[j] := List.getElem?_eq_getElem hj
    refine stp_j hJ 6 ⟨i20, i22 (by decide), j, ix_nI (by omega) (by decide), _, h5.2.2 j _ hx, rfl, ?_⟩
    rw [aQueue, if_neg (nI_pos (by omega)), nI_clamp (by omega), hx]
  · refine stp_j hJ 1 ⟨fun _ => ?_, fun h2 => absurd rfl h2⟩
    refine stp_j hJ 2 ⟨rfl, ?_⟩
    rw [aQueue]
    split
    · rfl
    · rename_i hk
      rw [List.getElem?_eq_none (wn_no (by omega) hw hk rfl)]
theorem q_author {ρ : mS} {y : Yd} {ls es : List (Int32 × Int32)} (h : RRw ρ y ls es) (k : Int32) : Meets clR yX7_author (kX7_author :: wT) rX7_author [mR 20 0, mI k] ρ (fun o τ => τ = ρ ∧ o = some (mI (aAuthor y k))) := by
  refine Meets.of SX7_author rfl (by decide) rfl (Nat.le_of_ble_eq_true rfl) ?_
  intro J hJ
  have h5 := h.2.2.2.2.2.2.2.2.2.1
  have h8 := h5.2.1
  refine stp_j hJ 7 ⟨i20, _, h5.1, _, rfl, trivial, rfl, _, r_within ρ k 0 _, ?_⟩
  rintro o τ ⟨w, hw⟩
  have w := w.symm
  subst w
  rcases hw with ⟨rfl, hw⟩ | ⟨rfl, hw⟩
  · refine stp_j hJ 1 ⟨fun h2 => absurd h2 (by decide), fun _ => ?_⟩
    obtain ⟨j, hj, rfl⟩ := wn_ix (by omega) hw
    have hx : (yO y)[j]? = some (yO y)[j] := List.getElem?_eq_getElem hj
    refine stp_j hJ 6 ⟨i20, i28 (by decide), j, ix_nI (by omega) (by decide), _, (h5.2.2 j _ hx).2, rfl, ?_⟩
    rw [aAuthor, if_neg (nI_pos (by omega)), nI_clamp (by omega), hx]
  · refine stp_j hJ 1 ⟨fun _ => ?_, fun h2 => absurd rfl h2⟩
    refine stp_j hJ 2 ⟨rfl, ?_⟩
    rw [aAuthor]
    split
    · rfl
    · rename_i hk
      rw [List.getElem?_eq_none (wn_no (by omega) hw hk rfl)]
