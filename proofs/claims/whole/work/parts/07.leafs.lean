/-! Mailbox, Outputs, Code -/
def yes (P : Prop) (r : Option mV) : Prop := (r = some (mI 1) ∧ P) ∨ (r = some (mI 0) ∧ ¬ P)
def MbIs (σ : mS) (i : Nat) (ms : List (Int32 × Int32)) : Prop := ∃ h : Nat, h < 24 ∧ σ.1 8 i 2 = nI h ∧ σ.1 8 i 3 = nI ms.length ∧ ms.length ≤ 24 ∧ ∀ (p : Nat) (m : Int32 × Int32), ms[p]? = some m → σ.1 9 i ((h + p) % 24) = m.1 ∧ σ.1 10 i ((h + p) % 24) = m.2
abbrev pMb (j : Nat) : Nat → Nat → Prop := fun k i => (k = 8 ∨ k = 9 ∨ k = 10) ∧ i = j
theorem MbIs.ch {P : Nat → Nat → Prop} {σ τ : mS} {j : Nat} {xs : List (Int32 × Int32)} (h : MbIs σ j xs) (c : Ch P σ τ) (h3 : ¬ P 8 j) (h4 : ¬ P 9 j) (h5 : ¬ P 10 j) : MbIs τ j xs := by
  obtain ⟨q, a1, a2, a3, a4, a5⟩ := h
  refine ⟨q, a1, by rw [(c 8 j h3).1]; exact a2, by rw [(c 8 j h3).1]; exact a3, a4, fun p m hp => ?_⟩
  rw [(c 9 j h4).1, (c 10 j h5).1]
  exact a5 p m hp
theorem c_Mb_clear {σ : mS} {i : Nat} (hi : i < 8) : Meets clC yX3_clear (kX3_clear :: wT) rX3_clear [mR 8 i] σ (fun r τ => r = none ∧ Ch (pMb i) σ τ ∧ MbIs τ i []) := by
  refine Meets.of SX3_clear rfl (by decide) rfl (Nat.le_of_ble_eq_true rfl) ?_
  intro J hJ
  refine stp_j hJ 7 ⟨i8 hi, i8 hi, rfl, Ch.andI (Ch.oI (P := pMb i) ⟨Or.inl rfl, rfl⟩) ⟨Or.inl rfl, rfl⟩, 0, by decide, ?_, ?_, by decide, fun p m hp => by simp at hp⟩
  · simp [u3, nI_0]
  · simp [u3, nI_0]
theorem c_Mb_add {σ : mS} {i : Nat} {ms : List (Int32 × Int32)} (hi : i < 8) (h : MbIs σ i ms) (hl : ms.length < 24) (v s : Int32) : Meets clC yX3_add (kX3_add :: wT) rX3_add [mR 8 i, mI v, mI s] σ (fun r τ => r = none ∧ Ch (pMb i) σ τ ∧ MbIs τ i (ms ++ [(v, s)])) := by
  obtain ⟨q, a1, a2, a3, a4, a5⟩ := h
  refine Meets.of SX3_add rfl (by decide) rfl (Nat.le_of_ble_eq_true rfl) ?_
  intro J hJ
  refine stp_j hJ 4 ⟨i8 hi, _, a3, fun h2 => ?_, fun h2 => ?_⟩
  · have hm : (q + ms.length) % 24 < 24 := Nat.mod_lt _ (by decide)
    refine stp_j hJ 8 ⟨i8 hi, _, a2, i8 hi, _, a3, _, nI_add _ _, by decide, _, pk_rem (a := q + ms.length) (d := 24) (by omega) (by decide) (by decide), ?_⟩
    refine stp_j hJ 10 ⟨i8 hi, i9 hi, _, ix_nI hm (by decide), i8 hi, i10 hi, _, ix_nI hm (by decide), ?_⟩
    refine stp_j hJ 7 ⟨i8 hi, _, ?_, _, nI_1 ms.length, i8 hi, rfl, Ch.andI (Ch.andI (Ch.oI (P := pMb i) ⟨Or.inr (Or.inl rfl), rfl⟩) ⟨Or.inr (Or.inr rfl), rfl⟩) ⟨Or.inl rfl, rfl⟩, q, a1, ?_, ?_, ?_, ?_⟩
    · simp [u3, a3]
    · simp [u3, a2]
    · simp [u3]
    · simp
      omega
    · intro p m hp
      by_cases hpl : p < ms.length
      · rw [List.getElem?_append_left hpl] at hp
        have hne : ¬ (q + p) % 24 = (q + ms.length) % 24 := by omega
        have := a5 p m hp
        simp [u3, hne, this]
      · rw [List.getElem?_append_right (by omega)] at hp
        have hz : p - ms.length < 1 := (List.getElem?_eq_some_iff.mp hp).1
        have hpe : p = ms.length := by omega
        subst hpe
        simp at hp
        subst hp
        simp [u3]
  · exact absurd (show nI ms.length < nI 24 from nI_lt hl (by decide)) h2
def mAt (ms : List (Int32 × Int32)) (k : Int32) : Int32 := if k < 0 then 0 else match ms[k.toNatClampNeg]? with
  | none => 0
  | some m => m.1
theorem c_Mb_valueAt {σ : mS} {i : Nat} {ms : List (Int32 × Int32)} (hi : i < 8) (h : MbIs σ i ms) (k : Int32) : Meets clC yX3_valueAt (kX3_valueAt :: wT) rX3_valueAt [mR 8 i, mI k] σ (fun r τ => τ = σ ∧ r = some (mI (mAt ms k))) := by
  obtain ⟨q, a1, a2, a3, a4, a5⟩ := h
  refine Meets.of SX3_valueAt rfl (by decide) rfl (Nat.le_of_ble_eq_true rfl) ?_
  intro J hJ
  refine stp_j hJ 2 ⟨fun h1 => ?_, fun h1 => ?_⟩
  · refine stp_j hJ 3 ⟨rfl, ?_⟩
    rw [mAt, if_pos h1]
  · obtain ⟨p, hp, rfl⟩ := nI_of h1
    refine stp_j hJ 4 ⟨i8 hi, _, a3, fun h2 => ?_, fun h2 => ?_⟩
    · have hlt : p < ms.length := (nI_ltI hp (by omega)).mp h2
      have hx : ms[p]? = some ms[p] := List.getElem?_eq_getElem hlt
      have hm : (q + p) % 24 < 24 := Nat.mod_lt _ (by decide)
      refine stp_j hJ 10 ⟨i8 hi, i8 hi, _, a2, _, nI_add _ _, by decide, _, pk_rem (a := q + p) (d := 24) (by omega) (by decide) (by decide), i9 hi, _, ix_nI hm (by decide), _, (a5 p _ hx).1, rfl, ?_⟩
      rw [mAt, if_neg h1, nI_clamp hp, hx]
    · have hge : ms.length ≤ p := Nat.not_lt.mp (fun z => h2 ((nI_ltI hp (by omega)).mpr z))
      refine stp_j hJ 3 ⟨rfl, ?_⟩
      rw [mAt, if_neg h1, nI_clamp hp, List.getElem?_eq_none hge]
def mSnd (ms : List (Int32 × Int32)) : Int32 := match ms with
  | [] => 0
  | m :: _ => m.2
theorem c_Mb_firstSender {σ : mS} {i : Nat} {ms : List (Int32 × Int32)} (hi : i < 8) (h : MbIs σ i ms) : Meets clC yX3_firstSender (kX3_firstSender :: wT) rX3_firstSender [mR 8 i] σ (fun r τ => τ = σ ∧ r = some (mI (mSnd ms))) := by
  obtain ⟨q, a1, a2, a3, a4, a5⟩ := h
  refine Meets.of SX3_firstSender rfl (by decide) rfl (Nat.le_of_ble_eq_true rfl) ?_
  intro J hJ
  refine stp_j hJ 4 ⟨i8 hi, _, a3, fun h2 => ?_, fun h2 => ?_⟩
  · have hlt : 1 ≤ ms.length := (nI_leI (a := 1) (by decide) (by omega)).mp h2
    cases ms with
    | nil => simp at hlt
    | cons m ms =>
      have e := (a5 0 m rfl).2
      rw [Nat.add_zero, Nat.mod_eq_of_lt a1] at e
      exact stp_j hJ 6 ⟨i8 hi, i8 hi, _, a2, i10 hi, _, ix_nI a1 (by decide), _, e, rfl, rfl⟩
  · have hlt : ¬ 1 ≤ ms.length := fun z => h2 ((nI_leI (a := 1) (by decide) (by omega)).mpr z)
    cases ms with
    | nil => exact stp_j hJ 3 ⟨rfl, rfl⟩
    | cons m ms => simp at hlt
theorem c_Mb_removeFirst {σ : mS} {i : Nat} {ms : List (Int32 × Int32)} (hi : i < 8) (h : MbIs σ i ms) : Meets clC yX3_removeFirst (kX3_removeFirst :: wT) rX3_removeFirst [mR 8 i] σ (fun r τ => r = none ∧ Ch (pMb i) σ τ ∧ MbIs τ i ms.tail) := by
  obtain ⟨q, a1, a2, a3, a4, a5⟩ := h
  refine Meets.of SX3_removeFirst rfl (by decide) rfl (Nat.le_of_ble_eq_true rfl) ?_
  intro J hJ
  refine stp_j hJ 3 ⟨i8 hi, _, a3, fun h2 => ?_, fun h2 => ?_⟩
  · cases ms with
    | nil => exact stp_j hJ 1 ⟨rfl, Ch.rf, q, a1, a2, a3, a4, fun p m hp => a5 p m hp⟩
    | cons m ms => exact absurd h2 (nI_nle (by simp) (by omega))
  · cases ms with
    | nil => exact absurd (by simp [nI_0]) h2
    | cons m ms =>
      have hm : (q + 1) % 24 < 24 := Nat.mod_lt _ (by decide)
      simp only [List.length_cons] at a3 a4
      refine stp_j hJ 8 ⟨i8 hi, _, a2, _, nI_1 _, by decide, _, pk_rem (a := q + 1) (d := 24) (by omega) (by decide) (by decide), i8 hi, ?_⟩
      refine stp_j hJ 7 ⟨i8 hi, _, ?_, _, nI_pred ms.length, i8 hi, rfl, Ch.andI (Ch.oI (P := pMb i) ⟨Or.inl rfl, rfl⟩) ⟨Or.inl rfl, rfl⟩, (q + 1) % 24, hm, ?_, ?_, ?_, ?_⟩
      · simp [u3, a3]
      · simp [u3]
      · simp [u3]
      · simp
        omega
      · intro p m' hp
        have e : ((q + 1) % 24 + p) % 24 = (q + (p + 1)) % 24 := by omega
        rw [e]
        have := a5 (p + 1) m' (by simpa using hp)
        simp [u3, this]
def OutIs (σ : mS) (os : List (Int32 × Int32)) : Prop := σ.1 15 0 2 = nI os.length ∧ os.length ≤ 60 ∧ ∀ (p : Nat) (m : Int32 × Int32), os[p]? = some m → σ.1 16 0 p = m.1 ∧ σ.1 16 1 p = m.2
abbrev pOut : Nat → Nat → Prop := fun k _ => k = 15 ∨ k = 16
theorem OutIs.ch {P : Nat → Nat → Prop} {σ τ : mS} {os : List (Int32 × Int32)} (h : OutIs σ os) (c : Ch P σ τ) (h3 : ¬ P 15 0) (h4 : ¬ P 16 0) (h5 : ¬ P 16 1) : OutIs τ os := by
  refine ⟨by rw [(c 15 0 h3).1]; exact h.1, h.2.1, fun p m hp => ?_⟩
  rw [(c 16 0 h4).1, (c 16 1 h5).1]
  exact h.2.2 p m hp
theorem c_Out_has {σ : mS} {os : List (Int32 × Int32)} (h : OutIs σ os) (k : Int32) : Meets clC yX4_has (kX4_has :: wT) rX4_has [mR 15 0, mI k] σ (fun r τ => τ = σ ∧ yes (0 ≤ k ∧ k < nI os.length) r) := by
  refine Meets.of SX4_has rfl (by decide) rfl (Nat.le_of_ble_eq_true rfl) ?_
  intro J hJ
  refine stp_j hJ 2 ⟨fun h1 => ?_, fun h1 => ?_⟩
  · exact stp_j hJ 2 ⟨Or.inl rfl, rfl, Or.inr ⟨rfl, fun z => absurd h1 (Int32.not_lt.mpr z.1)⟩⟩
  · refine stp_j hJ 4 ⟨i15, _, h.1, fun h2 => ?_, fun h2 => ?_⟩
    · exact stp_j hJ 2 ⟨Or.inl rfl, rfl, Or.inr ⟨rfl, fun z => absurd h2 (Int32.not_le.mpr z.2)⟩⟩
    · exact stp_j hJ 3 ⟨Or.inr rfl, rfl, Or.inl ⟨rfl, Int32.not_lt.mp h1, Int32.not_le.mp h2⟩⟩
theorem c_Out_add {σ : mS} {os : List (Int32 × Int32)} (h : OutIs σ os) (v a : Int32) : Meets clC yX4_add (kX4_add :: wT) rX4_add [mR 15 0, mI v, mI a] σ (fun r τ => r = none ∧ Ch pOut σ τ ∧ OutIs τ (if os.length < 60 then os ++ [(v, a)] else os)) := by
  refine Meets.of SX4_add rfl (by decide) rfl (Nat.le_of_ble_eq_true rfl) ?_
  intro J hJ
  have h6 := h.2.1
  refine stp_j hJ 4 ⟨i15, _, h.1, fun h2 => ?_, fun h2 => ?_⟩
  · have : 60 ≤ os.length := (nI_leI (a := 60) (by decide) (by omega)).mp h2
    refine stp_j hJ 1 ⟨rfl, Ch.rf, ?_⟩
    rw [if_neg (by omega)]
    exact h
  · have hl : os.length < 60 := Nat.not_le.mp (fun z => h2 ((nI_leI (a := 60) (by decide) (by omega)).mpr z))
    refine stp_j hJ 12 ⟨i15, i15, _, h.1, i16 (by decide), _, ix_nI hl (by decide), i15, i15, _, h.1, i16 (by decide), _, ix_nI hl (by decide), ?_⟩
    refine stp_j hJ 7 ⟨i15, _, h.1, _, nI_1 os.length, i15, rfl, Ch.andI (Ch.andI (Ch.oI (P := pOut) (Or.inr rfl)) (Or.inr rfl)) (Or.inl rfl), ?_⟩
    rw [if_pos hl]
    refine ⟨by simp [u3], by simp; omega, fun p m hp => ?_⟩
    by_cases hpl : p < os.length
    · rw [List.getElem?_append_left hpl] at hp
      have hne : ¬ p = os.length := by omega
      have := h.2.2 p m hp
      simp [u3, hne, this]
    · rw [List.getElem?_append_right (by omega)] at hp
      have hz : p - os.length < 1 := (List.getElem?_eq_some_iff.mp hp).1
      have hpe : p = os.length := by omega
      subst hpe
      simp at hp
      subst hp
      simp [u3]
theorem c_Code_isCell {cl : mC} (σ : mS) (c : Int32) : Meets cl yX1_isCell (kX1_isCell :: wT) rX1_isCell [mI c] σ (fun r τ => τ = σ ∧ yes (0 ≤ c ∧ c < 48) r) := by
  refine Meets.of SX1_isCell rfl (by decide) rfl (Nat.le_of_ble_eq_true rfl) ?_
  intro J hJ
  refine stp_j hJ 2 ⟨fun h1 => ?_, fun h1 => ?_⟩
  · exact stp_j hJ 2 ⟨Or.inl rfl, rfl, Or.inr ⟨rfl, fun z => absurd h1 (Int32.not_lt.mpr z.1)⟩⟩
  · refine stp_j hJ 3 ⟨fun h2 => ?_, fun h2 => ?_⟩
    · exact stp_j hJ 2 ⟨Or.inl rfl, rfl, Or.inr ⟨rfl, fun z => absurd h2 (Int32.not_le.mpr z.2)⟩⟩
    · exact stp_j hJ 3 ⟨Or.inr rfl, rfl, Or.inl ⟨rfl, Int32.not_lt.mp h1, Int32.not_le.mp h2⟩⟩
theorem c_Code_isRegister {cl : mC} (σ : mS) (c : Int32) : Meets cl yX1_isRegister (kX1_isRegister :: wT) rX1_isRegister [mI c] σ (fun r τ => τ = σ ∧ yes (0 ≤ c ∧ c < 4) r) := by
  refine Meets.of SX1_isRegister rfl (by decide) rfl (Nat.le_of_ble_eq_true rfl) ?_
  intro J hJ
  refine stp_j hJ 2 ⟨fun h1 => ?_, fun h1 => ?_⟩
  · exact stp_j hJ 2 ⟨Or.inl rfl, rfl, Or.inr ⟨rfl, fun z => absurd h1 (Int32.not_lt.mpr z.1)⟩⟩
  · refine stp_j hJ 3 ⟨fun h2 => ?_, fun h2 => ?_⟩
    · exact stp_j hJ 2 ⟨Or.inl rfl, rfl, Or.inr ⟨rfl, fun z => absurd h2 (Int32.not_le.mpr z.2)⟩⟩
    · exact stp_j hJ 3 ⟨Or.inr rfl, rfl, Or.inl ⟨rfl, Int32.not_lt.mp h1, Int32.not_le.mp h2⟩⟩
theorem ix_of {x : Int32} {n : Nat} {N : Int32} (h0 : 0 ≤ x) (h1 : x < N) (hN : N.toInt = n) : ix x n x.toNatClampNeg := by
  refine ⟨vp_in_iff.mpr ⟨?_, ?_⟩, rfl⟩
  · simpa [Int32.le_iff_toInt_le] using h0
  · rw [Int32.lt_iff_toInt_lt, hN] at h1
    exact h1
theorem c_Code_isFilled (σ : mS) (c : Int32) : Meets clC yX1_isFilled (kX1_isFilled :: wT) rX1_isFilled [mR 1 0, mI c] σ (fun r τ => τ = σ ∧ yes (0 ≤ c ∧ c < 48 ∧ ¬ σ.1 2 0 c.toNatClampNeg = -1) r) := by
  refine Meets.of SX1_isFilled rfl (by decide) rfl (Nat.le_of_ble_eq_true rfl) ?_
  intro J hJ
  refine stp_j hJ 2 ⟨trivial, rfl, _, c_Code_isCell σ c, ?_⟩
  rintro r τ ⟨rfl, ⟨rfl, hc⟩ | ⟨rfl, hc⟩⟩
  · refine stp_j hJ 1 ⟨fun h1 => absurd h1 (by decide), fun _ => ?_⟩
    refine stp_j hJ 6 ⟨i1, i2 (by decide), _, ix_of hc.1 hc.2 rfl, _, rfl, fun h2 => ?_, fun h2 => ?_⟩
    · exact stp_j hJ 2 ⟨Or.inl rfl, rfl, Or.inr ⟨rfl, fun z => z.2.2 h2⟩⟩
    · exact stp_j hJ 3 ⟨Or.inr rfl, rfl, Or.inl ⟨rfl, hc.1, hc.2, h2⟩⟩
  · refine stp_j hJ 1 ⟨fun _ => ?_, fun h1 => absurd rfl h1⟩
    exact stp_j hJ 2 ⟨Or.inl rfl, rfl, Or.inr ⟨rfl, fun z => hc ⟨z.1, z.2.1⟩⟩⟩
theorem c_Code_put (σ : mS) (c op a b : Int32) (h0 : 0 ≤ c) (h1 : c < 48) : Meets clC yX1_put (kX1_put :: wT) rX1_put [mR 1 0, mI c, mI op, mI a, mI b] σ (fun r τ => r = none ∧ τ = sI (sI (sI σ 2 0 c.toNatClampNeg op) 2 1 c.toNatClampNeg a) 2 2 c.toNatClampNeg b) := by
  refine Meets.of SX1_put rfl (by decide) rfl (Nat.le_of_ble_eq_true rfl) ?_
  intro J hJ
  exact stp_j hJ 16 ⟨i1, i2 (by decide), _, ix_of h0 h1 rfl, i1, i2 (by decide), _, ix_of h0 h1 rfl, i1, i2 (by decide), _, ix_of h0 h1 rfl, rfl, rfl⟩
