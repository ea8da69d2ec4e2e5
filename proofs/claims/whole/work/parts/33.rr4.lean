/-! The reference: clock, mayBegin -/
theorem oI_add (n : Nat) (b : Int32) : Int32.ofInt ((n : Int) + b.toInt) = nI n + b := by
  rw [Int32.ofInt_add, Int32.ofInt_toInt]
  congr 1
theorem R_clock {ρ : mS} {y : Yd} {ls es : List (Int32 × Int32)} (h : RRw ρ y ls es) (i b v : Int32) (l : Bool) : Meets clR yX7_clock (kX7_clock :: wT) rX7_clock [mR 20 0, mI i, mI b, mI v, mI (bI l)] ρ (fun r τ => r = none ∧ RRw τ (yClock y i b v l) ls es ∧ τ.1 22 0 = ρ.1 22 0) := by
  refine (r_clock h.2.2.2.2.2.2.2.2.1 i b v l).mono ?_
  rintro r τ ⟨hr, f, g⟩
  refine ⟨hr, ?_⟩
  rw [h.2.2.2.1.2.1, List.length_map] at g
  by_cases hl : (yT y).length < 10
  · rw [if_pos hl] at g
    rw [yClock, if_pos hl]
    refine h.ck f ?_
    rw [List.map_append]
    rw [← oI_add] at g
    exact g
  · rw [if_neg hl] at g
    rw [yClock, if_neg hl]
    exact h.ck f g
theorem nI_3 (s : Nat) : (3 : Int32) * nI s = nI (3 * s) := (Int32.ofNat_mul 3 s).symm
theorem sub10 {n : Nat} (h : n < 2 ^ 31) : (nI n - 10).toInt = (n : Int) - 10 := by
  rw [Int32.toInt_sub, nI_toInt h]
  exact Int.bmod_eq_of_le (by simp; omega) (by simp; omega)
theorem R_mayBegin {ρ : mS} {y : Yd} {ls es : List (Int32 × Int32)} (h : RRw ρ y ls es) (hL : (yL y).toNatClampNeg < 2 ^ 31) (hN : yN y < 2 ^ 31) {s : Nat} (hs : s < 8) {i : Int32} (hi : ρ.1 22 0 s = i) (hi0 : ¬ i = 0) : Meets clR yX7_mayBegin (kX7_mayBegin :: wT) rX7_mayBegin [mR 20 0, mI (nI s)] ρ (fun r τ => τ = ρ ∧ yes ((yH y i).1 ≤ (yN y : Int) - 10) r) := by
  have hb := (h.2.1 s hs (by rw [hi]; exact hi0)).2.2.2.2.2.2.2.2
  rw [hi] at hb
  obtain ⟨b, hb1, hb2, hb3, hb4, hb5, hb6⟩ := hb
  refine Meets.of SX7_mayBegin rfl (by decide) rfl (Nat.le_of_ble_eq_true rfl) ?_
  intro J hJ
  have hm : b % 3 < 3 := Nat.mod_lt _ (by decide)
  refine stp_j hJ 6 ⟨i20, i22 (by decide), s, ix_nI hs (by decide), _, hb2, fun h2 => ?_, fun h2 => ?_⟩
  · have h3 : b < 3 := (nI_ltI (a := b) (b := 3) (by omega) (by decide)).mp h2
    refine stp_j hJ 3 ⟨Or.inr rfl, rfl, Or.inl ⟨rfl, ?_⟩⟩
    rw [hb6, if_neg (by omega)]
    omega
  · have h3 : 3 ≤ b := Nat.not_lt.mp (fun z => h2 ((nI_ltI (a := b) (b := 3) (by omega) (by decide)).mpr z))
    rw [if_pos h3] at hb6
    refine stp_j hJ 18 ⟨i20, _, nI_3 s, i20, i22 (by decide), s, ix_nI hs (by decide), _, hb2, by decide, _, pk_rem (a := b) (d := 3) (by omega) (by decide) (by decide), _, nI_add _ _, i25 (by decide), 3 * s + b % 3, ix_nI (by omega) (by decide), _, rfl, i20, _, h.2.2.2.1.2.1, _, rfl, fun h4 => ?_, fun h4 => ?_⟩
    · refine stp_j hJ 2 ⟨Or.inl rfl, rfl, Or.inr ⟨rfl, ?_⟩⟩
      have h4 := Int32.lt_iff_toInt_lt.mp h4
      have e := sub10 hN
      rw [hb6]
      intro z
      have h4 : (nI (yN y) - 10).toInt < (ρ.1 25 0 (3 * s + b % 3)).toInt := h4
      omega
    · refine stp_j hJ 3 ⟨Or.inr rfl, rfl, Or.inl ⟨rfl, ?_⟩⟩
      have h4 := Int32.le_iff_toInt_le.mp (Int32.not_lt.mp h4)
      have e := sub10 hN
      rw [hb6]
      have h4 : (ρ.1 25 0 (3 * s + b % 3)).toInt ≤ (nI (yN y) - 10).toInt := h4
      omega
