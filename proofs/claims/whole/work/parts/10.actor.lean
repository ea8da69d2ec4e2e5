/-! Actor, Arrays.fill, Code.isInstruction -/
theorem c_fill6 {cl : mC} {σ : mS} {i : Nat} (m : (6, i) ∈ cl) (v : Int32) : Meets cl yJ_fillI (kJ_fillI :: wT) rJ_fillI [mR 6 i, mI v] σ (fun r τ => r = none ∧ τ.2 = σ.2 ∧ ∀ a b p, τ.1 a b p = if a = 6 ∧ b = i ∧ p < 4 then v else σ.1 a b p) := by
  refine Meets.of SJ_fillI rfl (by decide) rfl (Nat.le_of_ble_eq_true rfl) ?_
  intro J hJ
  have loop : ∀ (d n : Nat) (τ : mS), n + d = 4 → τ.2 = σ.2 → (∀ a b p, τ.1 a b p = if a = 6 ∧ b = i ∧ p < n then v else σ.1 a b p) → J τ 5 [(0, mR 6 i), (1, mI v), (2, mI (nI n)), (3, mI 4)] [] := by
    intro d
    induction d with
    | zero =>
      intro n τ hn t1 t2
      have e : n = 4 := by omega
      subst e
      refine stp_j hJ 3 ⟨fun h => ?_, fun h => ?_⟩
      · exact stp_j hJ 1 ⟨rfl, t1, t2⟩
      · exact absurd (by decide) h
    | succ d ih =>
      intro n τ hn t1 t2
      refine stp_j hJ 3 ⟨fun h => ?_, fun h => ?_⟩
      · exact absurd h (nI_ge (b := 4) (by omega) (by decide))
      · refine stp_j hJ 6 ⟨m, n, ix_nI (by omega) (by decide), _, nI_1 n, ?_⟩
        refine ih (n + 1) (sI τ 6 i n v) (by omega) t1 ?_
        intro a b p
        show u3 τ.1 6 i n v a b p = _
        by_cases hc : a = 6 ∧ b = i ∧ p = n
        · obtain ⟨rfl, rfl, rfl⟩ := hc
          rw [u3_s, if_pos ⟨rfl, rfl, by omega⟩]
        · rw [u3_n _ _ hc, t2]
          by_cases hc2 : a = 6 ∧ b = i ∧ p < n
          · rw [if_pos hc2, if_pos ⟨hc2.1, hc2.2.1, by omega⟩]
          · rw [if_neg hc2, if_neg]
            intro hc3
            have h1 : ¬ p = n := fun z => hc ⟨hc3.1, hc3.2.1, z⟩
            exact hc2 ⟨hc3.1, hc3.2.1, by omega⟩
  refine stp_j hJ 5 ⟨m, ?_⟩
  exact loop 4 0 σ (by decide) rfl (fun a b p => by rw [if_neg (by omega)])
theorem c_fill2 {cl : mC} {σ : mS} {i : Nat} (m : (2, i) ∈ cl) (v : Int32) : Meets cl yJ_fillI (kJ_fillI :: wT) rJ_fillI [mR 2 i, mI v] σ (fun r τ => r = none ∧ τ.2 = σ.2 ∧ ∀ a b p, τ.1 a b p = if a = 2 ∧ b = i ∧ p < 48 then v else σ.1 a b p) := by
  refine Meets.of SJ_fillI rfl (by decide) rfl (Nat.le_of_ble_eq_true rfl) ?_
  intro J hJ
  have loop : ∀ (d n : Nat) (τ : mS), n + d = 48 → τ.2 = σ.2 → (∀ a b p, τ.1 a b p = if a = 2 ∧ b = i ∧ p < n then v else σ.1 a b p) → J τ 5 [(0, mR 2 i), (1, mI v), (2, mI (nI n)), (3, mI 48)] [] := by
    intro d
    induction d with
    | zero =>
      intro n τ hn t1 t2
      have e : n = 48 := by omega
      subst e
      refine stp_j hJ 3 ⟨fun h => ?_, fun h => ?_⟩
      · exact stp_j hJ 1 ⟨rfl, t1, t2⟩
      · exact absurd (by decide) h
    | succ d ih =>
      intro n τ hn t1 t2
      refine stp_j hJ 3 ⟨fun h => ?_, fun h => ?_⟩
      · exact absurd h (nI_ge (b := 48) (by omega) (by decide))
      · refine stp_j hJ 6 ⟨m, n, ix_nI (by omega) (by decide), _, nI_1 n, ?_⟩
        refine ih (n + 1) (sI τ 2 i n v) (by omega) t1 ?_
        intro a b p
        show u3 τ.1 2 i n v a b p = _
        by_cases hc : a = 2 ∧ b = i ∧ p = n
        · obtain ⟨rfl, rfl, rfl⟩ := hc
          rw [u3_s, if_pos ⟨rfl, rfl, by omega⟩]
        · rw [u3_n _ _ hc, t2]
          by_cases hc2 : a = 2 ∧ b = i ∧ p < n
          · rw [if_pos hc2, if_pos ⟨hc2.1, hc2.2.1, by omega⟩]
          · rw [if_neg hc2, if_neg]
            intro hc3
            have h1 : ¬ p = n := fun z => hc ⟨hc3.1, hc3.2.1, z⟩
            exact hc2 ⟨hc3.1, hc3.2.1, by omega⟩
  refine stp_j hJ 5 ⟨m, ?_⟩
  exact loop 48 0 σ (by decide) rfl (fun a b p => by rw [if_neg (by omega)])
theorem c_fill7 {σ : mS} {i : Nat} (hi : i < 8) (v : Int64) : Meets clC yJ_fillJ (kJ_fillJ :: wT) rJ_fillJ [mR 7 i, mL v] σ (fun r τ => r = none ∧ τ.1 = σ.1 ∧ τ.2.2 = σ.2.2 ∧ ∀ a b p, τ.2.1 a b p = if a = 7 ∧ b = i ∧ p < 3 then v else σ.2.1 a b p) := by
  refine Meets.of SJ_fillJ rfl (by decide) rfl (Nat.le_of_ble_eq_true rfl) ?_
  intro J hJ
  have loop : ∀ (d n : Nat) (τ : mS), n + d = 3 → τ.1 = σ.1 → τ.2.2 = σ.2.2 → (∀ a b p, τ.2.1 a b p = if a = 7 ∧ b = i ∧ p < n then v else σ.2.1 a b p) → J τ 6 [(0, mR 7 i), (1, mL v), (3, mI (nI n)), (4, mI 3)] [] := by
    intro d
    induction d with
    | zero =>
      intro n τ hn t1 t3 t2
      have e : n = 3 := by omega
      subst e
      refine stp_j hJ 3 ⟨fun h => ?_, fun h => ?_⟩
      · exact stp_j hJ 1 ⟨rfl, t1, t3, t2⟩
      · exact absurd (by decide) h
    | succ d ih =>
      intro n τ hn t1 t3 t2
      refine stp_j hJ 3 ⟨fun h => ?_, fun h => ?_⟩
      · exact absurd h (nI_ge (b := 3) (by omega) (by decide))
      · refine stp_j hJ 6 ⟨i7 hi, n, ix_nI (by omega) (by decide), _, nI_1 n, ?_⟩
        refine ih (n + 1) (sL τ 7 i n v) (by omega) t1 t3 ?_
        intro a b p
        show u3 τ.2.1 7 i n v a b p = _
        by_cases hc : a = 7 ∧ b = i ∧ p = n
        · obtain ⟨rfl, rfl, rfl⟩ := hc
          rw [u3_s, if_pos ⟨rfl, rfl, by omega⟩]
        · rw [u3_n _ _ hc, t2]
          by_cases hc2 : a = 7 ∧ b = i ∧ p < n
          · rw [if_pos hc2, if_pos ⟨hc2.1, hc2.2.1, by omega⟩]
          · rw [if_neg hc2, if_neg]
            intro hc3
            have h1 : ¬ p = n := fun z => hc ⟨hc3.1, hc3.2.1, z⟩
            exact hc2 ⟨hc3.1, hc3.2.1, by omega⟩
  refine stp_j hJ 5 ⟨i7 hi, ?_⟩
  exact loop 3 0 σ (by decide) rfl rfl (fun a b p => by rw [if_neg (by omega)])
/-- bit j of a word -/
def lb (w : Int32) (j : Nat) : Bool := w.toBitVec.getLsbD j
def bitJ (j : Nat) : Int32 := (1 : Int32) <<< (nI j &&& 31)
theorem bitJ_bv : ∀ j, j < 8 → (bitJ j).toBitVec = BitVec.twoPow 32 j := by decide +kernel
theorem lb_and (w : Int32) {j : Nat} (hj : j < 8) : (w &&& bitJ j = 0) ↔ lb w j = false := by
  have e : (w &&& bitJ j).toBitVec = if w.toBitVec.getLsbD j then BitVec.twoPow 32 j else 0#32 := by
    rw [Int32.toBitVec_and, bitJ_bv j hj, BitVec.and_twoPow]
  have hne : BitVec.twoPow 32 j ≠ 0#32 := (by decide +kernel : ∀ j, j < 8 → BitVec.twoPow 32 j ≠ 0#32) j hj
  unfold lb
  constructor
  · intro h
    rw [h] at e
    cases hb : w.toBitVec.getLsbD j with
    | false => rfl
    | true =>
      rw [hb] at e
      exact absurd e.symm hne
  · intro h
    rw [h] at e
    exact Int32.toBitVec_inj.mp e
theorem lb_0 (j : Nat) : lb 0 j = false := by simp [lb]
theorem lb_or (w : Int32) {j q : Nat} (hj : j < 8) (hq : q < 8) : lb (w ||| bitJ j) q = if q = j then true else lb w q := by
  unfold lb
  rw [Int32.toBitVec_or, bitJ_bv j hj, BitVec.getLsbD_or, BitVec.getLsbD_twoPow]
  by_cases h : q = j
  · subst h
    have : q < 32 := by omega
    simp [this]
  · have h2 : ¬ j = q := fun z => h z.symm
    simp [h, h2]
theorem lb_clear (w : Int32) {j q : Nat} (hj : j < 8) (hq : q < 8) : lb (w &&& (bitJ j ^^^ (-1))) q = if q = j then false else lb w q := by
  unfold lb
  have e1 : ((-1 : Int32)).toBitVec = BitVec.allOnes 32 := by decide +kernel
  rw [Int32.toBitVec_and, Int32.toBitVec_xor, bitJ_bv j hj, e1, BitVec.getLsbD_and, BitVec.getLsbD_xor, BitVec.getLsbD_twoPow, BitVec.getLsbD_allOnes]
  have h32 : q < 32 := by omega
  by_cases h : q = j
  · subst h
    simp [h32]
  · have h2 : ¬ j = q := fun z => h z.symm
    simp [h, h2, h32]
theorem c_Ac_isLinkedWith {σ : mS} {i j : Nat} (hi : i < 8) (hj : j < 8) (hs : σ.1 5 j 0 = nI j) : Meets clC yX0_isLinkedWith (kX0_isLinkedWith :: wT) rX0_isLinkedWith [mR 5 i, mR 5 j] σ (fun r τ => τ = σ ∧ yes (lb (σ.1 5 i 14) j = true) r) := by
  refine Meets.of SX0_isLinkedWith rfl (by decide) rfl (Nat.le_of_ble_eq_true rfl) ?_
  intro J hJ
  refine stp_j hJ 8 ⟨i5 hi, _, rfl, i5 hj, _, hs, _, rfl, _, rfl, fun h => ?_, fun h => ?_⟩
  · have h2 := (lb_and (σ.1 5 i 14) hj).mp h
    exact stp_j hJ 2 ⟨Or.inl rfl, rfl, Or.inr ⟨rfl, by rw [h2]; decide⟩⟩
  · have h2 : lb (σ.1 5 i 14) j = true := by
      cases hb : lb (σ.1 5 i 14) j with
      | true => rfl
      | false => exact absurd ((lb_and (σ.1 5 i 14) hj).mpr hb) h
    exact stp_j hJ 3 ⟨Or.inr rfl, rfl, Or.inl ⟨rfl, h2⟩⟩
theorem c_Ac_setLink {σ : mS} {i j : Nat} (hi : i < 8) (hj : j < 8) (hs : σ.1 5 j 0 = nI j) (b : Bool) : Meets clC yX0_setLink (kX0_setLink :: wT) rX0_setLink [mR 5 i, mR 5 j, mI (bI b)] σ (fun r τ => r = none ∧ ∃ w, τ = sI σ 5 i 14 w ∧ ∀ q, q < 8 → lb w q = if q = j then b else lb (σ.1 5 i 14) q) := by
  refine Meets.of SX0_setLink rfl (by decide) rfl (Nat.le_of_ble_eq_true rfl) ?_
  intro J hJ
  refine stp_j hJ 8 ⟨i5 hj, _, hs, bitJ j, rfl, fun h => ?_, fun h => ?_⟩
  · cases b with
    | true => exact absurd h (by decide)
    | false =>
      refine stp_j hJ 8 ⟨i5 hi, _, rfl, _, rfl, _, rfl, i5 hi, rfl, _, rfl, fun q hq => ?_⟩
      exact lb_clear _ hj hq
  · cases b with
    | false => exact absurd rfl h
    | true =>
      refine stp_j hJ 7 ⟨i5 hi, _, rfl, _, rfl, i5 hi, rfl, _, rfl, fun q hq => ?_⟩
      exact lb_or _ hj hq
theorem c_Ac_mayBeginAnew {σ : mS} {i : Nat} (hi : i < 8) (n : Int64) : Meets clC yX0_mayBeginAnew (kX0_mayBeginAnew :: wT) rX0_mayBeginAnew [mR 5 i, mL n] σ (fun r τ => τ = σ ∧ yes (σ.2.1 7 i 0 ≤ n - 10) r) := by
  refine Meets.of SX0_mayBeginAnew rfl (by decide) rfl (Nat.le_of_ble_eq_true rfl) ?_
  intro J hJ
  refine stp_j hJ 9 ⟨i5 hi, i7 hi, 0, ix_nI (p := 0) (by decide) (by decide), _, rfl, _, rfl, _, rfl, fun h => ?_, fun h => ?_⟩
  · have h := (lg_cmp_gt _ _).mp h
    exact stp_j hJ 2 ⟨Or.inl rfl, rfl, Or.inr ⟨rfl, Int64.not_le.mpr h⟩⟩
  · have h : ¬ n - 10 < σ.2.1 7 i 0 := fun z => h ((lg_cmp_gt _ _).mpr z)
    exact stp_j hJ 3 ⟨Or.inr rfl, rfl, Or.inl ⟨rfl, Int64.not_lt.mp h⟩⟩
theorem c_Ac_noteBegunAnew {σ : mS} {i : Nat} (hi : i < 8) (n : Int64) : Meets clC yX0_noteBegunAnew (kX0_noteBegunAnew :: wT) rX0_noteBegunAnew [mR 5 i, mL n] σ (fun r τ => r = none ∧ τ.1 = u3 σ.1 5 i 12 (σ.1 5 i 12 + 1) ∧ τ.2.2 = σ.2.2 ∧ (∀ a b, ¬ (a = 7 ∧ b = i) → τ.2.1 a b = σ.2.1 a b) ∧ τ.2.1 7 i 0 = σ.2.1 7 i 1 ∧ τ.2.1 7 i 1 = σ.2.1 7 i 2 ∧ τ.2.1 7 i 2 = n) := by
  refine Meets.of SX0_noteBegunAnew rfl (by decide) rfl (Nat.le_of_ble_eq_true rfl) ?_
  intro J hJ
  refine stp_j hJ 6 ⟨i5 hi, _, rfl, _, rfl, i5 hi, ?_⟩
  refine stp_j hJ 8 ⟨i5 hi, i5 hi, i7 hi, i7 hi, by decide, by decide, by decide, by decide, by decide, ?_⟩
  refine stp_j hJ 6 ⟨i5 hi, i7 hi, 2, ix_nI (p := 2) (by decide) (by decide), rfl, rfl, rfl, ?_, ?_, ?_, ?_⟩
  · intro a b hab
    refine (u3_r _ n hab).trans ?_
    simp [hab]
  · simp [u3, va_cpy]
  · simp [u3, va_cpy]
  · simp [u3]
/-- what reset leaves in an actor's field f -/
def rsF (id en ar ov : Int32) (old : Nat → Int32) (f : Nat) : Int32 := match f with
  | 4 => id
  | 5 => en
  | 6 => ar
  | 7 => ov
  | 8 => en
  | 9 => 0
  | 10 => 0
  | 11 => 0
  | 12 => 0
  | 13 => 0
  | 14 => 0
  | n => old n
theorem rs_f (g : Nat → Nat → Nat → Int32) (i : Nat) (id en ar ov : Int32) (f : Nat) : u3 (u3 (u3 (u3 (u3 (u3 (u3 (u3 (u3 (u3 (u3 g 5 i 4 id) 5 i 5 en) 5 i 6 ar) 5 i 7 ov) 5 i 8 en) 5 i 9 0) 5 i 10 0) 5 i 11 0) 5 i 12 0) 5 i 13 0) 5 i 14 0 5 i f = rsF id en ar ov (g 5 i) f := by
  simp only [u3, true_and, and_true, eq_self]
  match f with
  | 0 => rfl
  | 1 => rfl
  | 2 => rfl
  | 3 => rfl
  | 4 => rfl
  | 5 => rfl
  | 6 => rfl
  | 7 => rfl
  | 8 => rfl
  | 9 => rfl
  | 10 => rfl
  | 11 => rfl
  | 12 => rfl
  | 13 => rfl
  | 14 => rfl
  | n + 15 => simp [rsF]
theorem c_Ac_reset {σ : mS} {i : Nat} (hi : i < 8) (id en ar ov : Int32) : Meets clC yX0_reset (kX0_reset :: wT) rX0_reset [mR 5 i, mI id, mI en, mI ar, mI ov] σ (fun r τ => r = none ∧ Ch (fun k q => (k = 5 ∨ k = 6 ∨ k = 7) ∧ q = i) σ τ ∧ (∀ f, τ.1 5 i f = rsF id en ar ov (σ.1 5 i) f) ∧ (∀ r, r < 4 → τ.1 6 i r = if r = 0 then ar else 0) ∧ (∀ t, t < 3 → τ.2.1 7 i t = -10)) := by
  refine Meets.of SX0_reset rfl (by decide) rfl (Nat.le_of_ble_eq_true rfl) ?_
  intro J hJ
  refine stp_j hJ 33 ⟨i5 hi, i5 hi, i5 hi, i5 hi, i5 hi, i5 hi, Or.inl rfl, i5 hi, Or.inl rfl, i5 hi, i5 hi, i5 hi, i5 hi, ?_⟩
  refine stp_j hJ 4 ⟨i5 hi, trivial, rfl, _, c_fill6 (i6 hi) 0, ?_⟩
  rintro r τ ⟨rfl, t1, t2⟩
  refine stp_j hJ 5 ⟨i5 hi, i6 hi, 0, ix_nI (p := 0) (by decide) (by decide), ?_⟩
  refine stp_j hJ 4 ⟨i5 hi, trivial, rfl, _, c_fill7 hi (-10), ?_⟩
  rintro r υ ⟨rfl, s1, s3, s2⟩
  refine stp_j hJ 1 ⟨rfl, ?_, ?_, ?_, ?_⟩
  · intro a b hab
    have h5 : ¬ (a = 5 ∧ b = i) := fun z => hab ⟨Or.inl z.1, z.2⟩
    have h6 : ¬ (a = 6 ∧ b = i) := fun z => hab ⟨Or.inr (Or.inl z.1), z.2⟩
    have h7 : ¬ (a = 7 ∧ b = i) := fun z => hab ⟨Or.inr (Or.inr z.1), z.2⟩
    refine ⟨?_, ?_, ?_⟩
    · rw [s1]
      refine (u3_r _ _ h6).trans ?_
      funext p
      rw [t2, if_neg (fun z => h6 ⟨z.1, z.2.1⟩)]
      simp only [u3_r _ _ h5]
    · funext p
      rw [s2, if_neg (fun z => h7 ⟨z.1, z.2.1⟩)]
      show τ.2.1 a b p = _
      rw [t1]
    · rw [s3]
      show τ.2.2 a b = _
      rw [t1]
  · intro f
    rw [s1]
    show u3 τ.1 6 i 0 ar 5 i f = _
    rw [u3_n _ _ (fun z => by omega), t2, if_neg (fun z => by omega)]
    exact rs_f σ.1 i id en ar ov f
  · intro r hr
    rw [s1]
    show u3 τ.1 6 i 0 ar 6 i r = _
    by_cases h0 : r = 0
    · subst h0
      simp [u3]
    · rw [if_neg h0, u3_n _ _ (fun z => h0 z.2.2), t2, if_pos ⟨rfl, rfl, hr⟩]
  · intro t ht
    rw [s2, if_pos ⟨rfl, rfl, ht⟩]
def insOk (op a b : Int32) : Prop := 0 ≤ op ∧ op ≤ 13 ∧ (op = 3 ∨ op = 9 ∨ (0 ≤ a ∧ a < 4)) ∧ ((op = 1 ∨ op = 2 ∨ op = 4) → 0 ≤ b ∧ b < 4) ∧ ((op = 3 ∨ op = 6 ∨ op = 7) → 0 ≤ b ∧ b < 48) ∧ (op = 13 → 1 ≤ b)
theorem c_Code_isInstruction {cl : mC} (σ : mS) (op a b : Int32) : Meets cl yX1_isInstruction (kX1_isInstruction :: wT) rX1_isInstruction [mI op, mI a, mI b] σ (fun r τ => τ = σ ∧ yes (insOk op a b) r) := by
  refine Meets.of SX1_isInstruction rfl (by decide) rfl (Nat.le_of_ble_eq_true rfl) ?_
  intro J hJ
  have no : ¬ insOk op a b → ∀ pc, (pc = 10 ∨ pc = 30) → J σ pc [(0, mI op), (1, mI a), (2, mI b)] [] := by
    rintro hn pc (rfl | rfl)
    · exact stp_j hJ 2 ⟨Or.inl rfl, rfl, Or.inr ⟨rfl, hn⟩⟩
    · exact stp_j hJ 2 ⟨Or.inl rfl, rfl, Or.inr ⟨rfl, hn⟩⟩
  have fin : ∀ {P : Prop} {r : Option mV}, (insOk op a b ↔ P) → yes P r → ∃ v, r = some (mI v) ∧ J σ 128 [(0, mI op), (1, mI a), (2, mI b)] [mI v] := by
    rintro P r hP (⟨rfl, h⟩ | ⟨rfl, h⟩)
    · exact ⟨1, rfl, stp_j hJ 1 ⟨Or.inr rfl, rfl, Or.inl ⟨rfl, hP.mpr h⟩⟩⟩
    · exact ⟨0, rfl, stp_j hJ 1 ⟨Or.inl rfl, rfl, Or.inr ⟨rfl, fun z => h (hP.mp z)⟩⟩⟩
  have sw : 0 ≤ op → op ≤ 13 → (op = 3 ∨ op = 9 ∨ (0 ≤ a ∧ a < 4)) → J σ 32 [(0, mI op), (1, mI a), (2, mI b)] [] := by
    intro g0 g1 g2
    have reg : (op = 1 ∨ op = 2 ∨ op = 4) → J σ 100 [(0, mI op), (1, mI a), (2, mI b)] [] := by
      intro ho
      refine stp_j hJ 2 ⟨trivial, rfl, _, c_Code_isRegister σ b, ?_⟩
      rintro r τ ⟨rfl, hy⟩
      obtain ⟨v, rfl, hv⟩ := fin (P := 0 ≤ b ∧ b < 4) ⟨fun z => z.2.2.2.1 ho, fun z => ⟨g0, g1, g2, fun _ => z, fun w => absurd w (by rcases ho with rfl | rfl | rfl <;> decide), fun w => absurd w (by rcases ho with rfl | rfl | rfl <;> decide)⟩⟩ hy
      exact stp_j hJ 1 hv
    have cel : (op = 3 ∨ op = 6 ∨ op = 7) → J σ 107 [(0, mI op), (1, mI a), (2, mI b)] [] := by
      intro ho
      refine stp_j hJ 2 ⟨trivial, rfl, _, c_Code_isCell σ b, ?_⟩
      rintro r τ ⟨rfl, hy⟩
      obtain ⟨v, rfl, hv⟩ := fin (P := 0 ≤ b ∧ b < 48) ⟨fun z => z.2.2.2.2.1 ho, fun z => ⟨g0, g1, g2, fun w => absurd w (by rcases ho with rfl | rfl | rfl <;> decide), fun _ => z, fun w => absurd w (by rcases ho with rfl | rfl | rfl <;> decide)⟩⟩ hy
      exact stp_j hJ 1 hv
    have lat : op = 13 → J σ 114 [(0, mI op), (1, mI a), (2, mI b)] [] := by
      intro ho
      subst ho
      refine stp_j hJ 3 ⟨fun h => ?_, fun h => ?_⟩
      · exact stp_j hJ 3 ⟨Or.inl rfl, rfl, Or.inr ⟨rfl, fun z => absurd (z.2.2.2.2.2 rfl) (Int32.not_le.mpr h)⟩⟩
      · exact stp_j hJ 3 ⟨Or.inr rfl, rfl, Or.inl ⟨rfl, g0, g1, g2, fun w => absurd w (by decide), fun w => absurd w (by decide), fun _ => Int32.not_lt.mp h⟩⟩
    have oth : ¬ (op = 1 ∨ op = 2 ∨ op = 4) → ¬ (op = 3 ∨ op = 6 ∨ op = 7) → ¬ op = 13 → J σ 127 [(0, mI op), (1, mI a), (2, mI b)] [] := fun o1 o2 o3 =>
      stp_j hJ 2 ⟨Or.inr rfl, rfl, Or.inl ⟨rfl, g0, g1, g2, fun w => absurd w o1, fun w => absurd w o2, fun w => absurd w o3⟩⟩
    have lit : ∀ {k : Int32} {n : Int}, op.toInt = n → k.toInt = n → op = k := fun h1 h2 => Int32.toInt_inj.mp (h1.trans h2.symm)
    refine stp_j hJ 2 ⟨fun q u hu hx => ?_, fun h => ?_⟩
    · match q, hu, hx with
      | 0, hu, hx => cases hu; exact reg (Or.inl (lit hx rfl))
      | 1, hu, hx => cases hu; exact reg (Or.inr (Or.inl (lit hx rfl)))
      | 2, hu, hx => cases hu; exact cel (Or.inl (lit hx rfl))
      | 3, hu, hx => cases hu; exact reg (Or.inr (Or.inr (lit hx rfl)))
      | 4, hu, hx => cases hu; have := lit (k := 5) hx rfl; subst this; exact oth (by decide) (by decide) (by decide)
      | 5, hu, hx => cases hu; exact cel (Or.inr (Or.inl (lit hx rfl)))
      | 6, hu, hx => cases hu; exact cel (Or.inr (Or.inr (lit hx rfl)))
      | 7, hu, hx => cases hu; have := lit (k := 8) hx rfl; subst this; exact oth (by decide) (by decide) (by decide)
      | 8, hu, hx => cases hu; have := lit (k := 9) hx rfl; subst this; exact oth (by decide) (by decide) (by decide)
      | 9, hu, hx => cases hu; have := lit (k := 10) hx rfl; subst this; exact oth (by decide) (by decide) (by decide)
      | 10, hu, hx => cases hu; have := lit (k := 11) hx rfl; subst this; exact oth (by decide) (by decide) (by decide)
      | 11, hu, hx => cases hu; have := lit (k := 12) hx rfl; subst this; exact oth (by decide) (by decide) (by decide)
      | 12, hu, hx => cases hu; exact lat (lit hx rfl)
      | n + 13, hu, hx => simp at hu
    · have e0 : op.toInt = 0 := by
        have a1 : (0 : Int) ≤ op.toInt := by simpa [Int32.le_iff_toInt_le] using g0
        have a2 : op.toInt ≤ 13 := by simpa [Int32.le_iff_toInt_le] using g1
        simp at h
        omega
      have := lit (k := 0) e0 rfl
      subst this
      exact oth (by decide) (by decide) (by decide)
  refine stp_j hJ 2 ⟨fun h => ?_, fun h => ?_⟩
  · exact no (fun z => absurd h (Int32.not_lt.mpr z.1)) 10 (Or.inl rfl)
  · refine stp_j hJ 3 ⟨fun h2 => ?_, fun h2 => ?_⟩
    · refine stp_j hJ 3 ⟨fun h3 => ?_, fun h3 => ?_⟩
      · exact sw (Int32.not_lt.mp h) h2 (Or.inl h3)
      · refine stp_j hJ 3 ⟨fun h4 => ?_, fun h4 => ?_⟩
        · exact sw (Int32.not_lt.mp h) h2 (Or.inr (Or.inl h4))
        · refine stp_j hJ 2 ⟨trivial, rfl, _, c_Code_isRegister σ a, ?_⟩
          rintro r τ ⟨rfl, ⟨rfl, hr⟩ | ⟨rfl, hr⟩⟩
          · refine stp_j hJ 1 ⟨fun _ => ?_, fun h5 => absurd (by decide) h5⟩
            exact sw (Int32.not_lt.mp h) h2 (Or.inr (Or.inr hr))
          · refine stp_j hJ 1 ⟨fun h5 => absurd rfl h5, fun _ => ?_⟩
            exact no (fun z => z.2.2.1.elim h3 (fun z => z.elim h4 hr)) 30 (Or.inr rfl)
    · exact no (fun z => h2 z.2.1) 10 (Or.inl rfl)
