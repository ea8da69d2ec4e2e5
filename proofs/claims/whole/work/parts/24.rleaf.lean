/-! The reference: rows in memory, and its smallest methods -/
def Fr (P : Nat → Nat → Nat → Prop) (σ τ : mS) : Prop := (∀ k i p, ¬ P k i p → τ.1 k i p = σ.1 k i p) ∧ τ.2 = σ.2
theorem Fr.rf {P : Nat → Nat → Nat → Prop} {σ : mS} : Fr P σ σ := ⟨fun _ _ _ _ => rfl, rfl⟩
theorem Fr.tr {P Q S : Nat → Nat → Nat → Prop} {σ τ υ : mS} (h1 : Fr P σ τ) (h2 : Fr Q τ υ) (hp : ∀ k i p, P k i p → S k i p) (hq : ∀ k i p, Q k i p → S k i p) : Fr S σ υ := ⟨fun k i p h => (h2.1 k i p (fun z => h (hq k i p z))).trans (h1.1 k i p (fun z => h (hp k i p z))), h2.2.trans h1.2⟩
theorem Fr.mono {P Q : Nat → Nat → Nat → Prop} {σ τ : mS} (h1 : Fr P σ τ) (hp : ∀ k i p, P k i p → Q k i p) : Fr Q σ τ := ⟨fun k i p h => h1.1 k i p (fun z => h (hp k i p z)), h1.2⟩
theorem Fr.andI {P : Nat → Nat → Nat → Prop} {σ τ : mS} {k i p : Nat} {v : Int32} (h : Fr P σ τ) (hp : P k i p) : Fr P σ (sI τ k i p v) := ⟨fun a b c hab => (u3_n τ.1 v (fun z => hab (by rw [z.1, z.2.1, z.2.2]; exact hp))).trans (h.1 a b c hab), h.2⟩
theorem Fr.oI {P : Nat → Nat → Nat → Prop} {σ : mS} {k i p : Nat} {v : Int32} (hp : P k i p) : Fr P σ (sI σ k i p v) := Fr.rf.andI hp
def RoIs (σ : mS) (xs : List Int32) : Prop := σ.1 20 0 15 = nI xs.length ∧ xs.length ≤ 8 ∧ ∀ (p : Nat) (x : Int32), xs[p]? = some x → σ.1 22 7 p = x
def MlIs (σ : mS) (xs : List (Int32 × Int32 × Int32)) : Prop := σ.1 20 0 18 = nI xs.length ∧ xs.length ≤ 24 ∧ ∀ (p : Nat) (x : Int32 × Int32 × Int32), xs[p]? = some x → σ.1 25 1 p = x.1 ∧ σ.1 25 2 p = x.2.1 ∧ σ.1 25 3 p = x.2.2
def LkIs (σ : mS) (xs : List (Int32 × Int32)) : Prop := σ.1 20 0 22 = nI xs.length ∧ xs.length ≤ 24 ∧ ∀ (p : Nat) (x : Int32 × Int32), xs[p]? = some x → σ.1 25 4 p = x.1 ∧ σ.1 25 5 p = x.2
def CkIs (σ : mS) (xs : List (Int32 × Int32 × Int32 × Bool)) : Prop := σ.1 20 0 26 = nI xs.length ∧ xs.length ≤ 10 ∧ ∀ (p : Nat) (x : Int32 × Int32 × Int32 × Bool), xs[p]? = some x → σ.1 26 0 p = x.1 ∧ σ.1 26 1 p = x.2.1 ∧ σ.1 26 2 p = x.2.2.1 ∧ σ.1 27 0 p = bI x.2.2.2
def OuIs (σ : mS) (xs : List (Int32 × Int32)) : Prop := σ.1 20 0 31 = nI xs.length ∧ xs.length ≤ 60 ∧ ∀ (p : Nat) (x : Int32 × Int32), xs[p]? = some x → σ.1 28 0 p = x.1 ∧ σ.1 28 1 p = x.2
def EnIs (σ : mS) (xs : List (Int32 × Int32)) : Prop := σ.1 20 0 34 = nI xs.length ∧ xs.length ≤ 200 ∧ ∀ (p : Nat) (x : Int32 × Int32), xs[p]? = some x → σ.1 29 0 p = x.1 ∧ σ.1 29 1 p = x.2
abbrev qRo : Nat → Nat → Nat → Prop := fun k i p => (k = 20 ∧ p = 15) ∨ (k = 22 ∧ i = 7)
abbrev qMl : Nat → Nat → Nat → Prop := fun k i p => (k = 20 ∧ p = 18) ∨ (k = 25 ∧ 1 ≤ i ∧ i ≤ 3)
abbrev qLk : Nat → Nat → Nat → Prop := fun k i p => (k = 20 ∧ p = 22) ∨ (k = 25 ∧ 4 ≤ i)
abbrev qCk : Nat → Nat → Nat → Prop := fun k _ p => (k = 20 ∧ p = 26) ∨ k = 26 ∨ k = 27
abbrev qOu : Nat → Nat → Nat → Prop := fun k _ p => (k = 20 ∧ p = 31) ∨ k = 28
abbrev qEn : Nat → Nat → Nat → Prop := fun k _ p => (k = 20 ∧ p = 34) ∨ k = 29
theorem RoIs.fr {P : Nat → Nat → Nat → Prop} {σ τ : mS} {xs : List Int32} (h : RoIs σ xs) (c : Fr P σ τ) (h1 : ∀ k i p, P k i p → ¬ qRo k i p) : RoIs τ xs := by
  refine ⟨by rw [c.1 20 0 15 (fun z => h1 _ _ _ z (by simp [qRo]))]; exact h.1, h.2.1, fun p x hp => ?_⟩
  rw [c.1 22 7 p (fun z => h1 _ _ _ z (by simp [qRo]))]
  exact h.2.2 p x hp
theorem MlIs.fr {P : Nat → Nat → Nat → Prop} {σ τ : mS} {xs : List (Int32 × Int32 × Int32)} (h : MlIs σ xs) (c : Fr P σ τ) (h1 : ∀ k i p, P k i p → ¬ qMl k i p) : MlIs τ xs := by
  refine ⟨by rw [c.1 20 0 18 (fun z => h1 _ _ _ z (by simp [qMl]))]; exact h.1, h.2.1, fun p x hp => ?_⟩
  rw [c.1 25 1 p (fun z => h1 _ _ _ z (by simp [qMl])), c.1 25 2 p (fun z => h1 _ _ _ z (by simp [qMl])), c.1 25 3 p (fun z => h1 _ _ _ z (by simp [qMl]))]
  exact h.2.2 p x hp
theorem LkIs.fr {P : Nat → Nat → Nat → Prop} {σ τ : mS} {xs : List (Int32 × Int32)} (h : LkIs σ xs) (c : Fr P σ τ) (h1 : ∀ k i p, P k i p → ¬ qLk k i p) : LkIs τ xs := by
  refine ⟨by rw [c.1 20 0 22 (fun z => h1 _ _ _ z (by simp [qLk]))]; exact h.1, h.2.1, fun p x hp => ?_⟩
  rw [c.1 25 4 p (fun z => h1 _ _ _ z (by simp [qLk])), c.1 25 5 p (fun z => h1 _ _ _ z (by simp [qLk]))]
  exact h.2.2 p x hp
theorem CkIs.fr {P : Nat → Nat → Nat → Prop} {σ τ : mS} {xs : List (Int32 × Int32 × Int32 × Bool)} (h : CkIs σ xs) (c : Fr P σ τ) (h1 : ∀ k i p, P k i p → ¬ qCk k i p) : CkIs τ xs := by
  refine ⟨by rw [c.1 20 0 26 (fun z => h1 _ _ _ z (by simp [qCk]))]; exact h.1, h.2.1, fun p x hp => ?_⟩
  rw [c.1 26 0 p (fun z => h1 _ _ _ z (by simp [qCk])), c.1 26 1 p (fun z => h1 _ _ _ z (by simp [qCk])), c.1 26 2 p (fun z => h1 _ _ _ z (by simp [qCk])), c.1 27 0 p (fun z => h1 _ _ _ z (by simp [qCk]))]
  exact h.2.2 p x hp
theorem OuIs.fr {P : Nat → Nat → Nat → Prop} {σ τ : mS} {xs : List (Int32 × Int32)} (h : OuIs σ xs) (c : Fr P σ τ) (h1 : ∀ k i p, P k i p → ¬ qOu k i p) : OuIs τ xs := by
  refine ⟨by rw [c.1 20 0 31 (fun z => h1 _ _ _ z (by simp [qOu]))]; exact h.1, h.2.1, fun p x hp => ?_⟩
  rw [c.1 28 0 p (fun z => h1 _ _ _ z (by simp [qOu])), c.1 28 1 p (fun z => h1 _ _ _ z (by simp [qOu]))]
  exact h.2.2 p x hp
theorem EnIs.fr {P : Nat → Nat → Nat → Prop} {σ τ : mS} {xs : List (Int32 × Int32)} (h : EnIs σ xs) (c : Fr P σ τ) (h1 : ∀ k i p, P k i p → ¬ qEn k i p) : EnIs τ xs := by
  refine ⟨by rw [c.1 20 0 34 (fun z => h1 _ _ _ z (by simp [qEn]))]; exact h.1, h.2.1, fun p x hp => ?_⟩
  rw [c.1 29 0 p (fun z => h1 _ _ _ z (by simp [qEn])), c.1 29 1 p (fun z => h1 _ _ _ z (by simp [qEn]))]
  exact h.2.2 p x hp
theorem r_within {cl : mC} (σ : mS) (v a b : Int32) : Meets cl yX7_within (kX7_within :: wT) rX7_within [mI v, mI a, mI b] σ (fun r τ => τ = σ ∧ yes (a ≤ v ∧ v ≤ b) r) := by
  refine Meets.of SX7_within rfl (by decide) rfl (Nat.le_of_ble_eq_true rfl) ?_
  intro J hJ
  refine stp_j hJ 3 ⟨fun h1 => ?_, fun h1 => ?_⟩
  · exact stp_j hJ 2 ⟨Or.inl rfl, rfl, Or.inr ⟨rfl, fun z => absurd h1 (Int32.not_lt.mpr z.1)⟩⟩
  · refine stp_j hJ 3 ⟨fun h2 => ?_, fun h2 => ?_⟩
    · exact stp_j hJ 2 ⟨Or.inl rfl, rfl, Or.inr ⟨rfl, fun z => absurd h2 (Int32.not_lt.mpr z.2)⟩⟩
    · exact stp_j hJ 3 ⟨Or.inr rfl, rfl, Or.inl ⟨rfl, Int32.not_lt.mp h1, Int32.not_lt.mp h2⟩⟩
def fnd (w : Nat → Int32) (id : Int32) : Nat → Option Nat
  | 0 => none
  | n + 1 => if 0 < id ∧ w n = id then some n else fnd w id n
theorem r_find (σ : mS) (id : Int32) : Meets clR yX7_find (kX7_find :: wT) rX7_find [mR 20 0, mI id] σ (fun r τ => τ = σ ∧ r = some (mI (idI (fnd (σ.1 22 0) id 8)))) := by
  refine Meets.of SX7_find rfl (by decide) rfl (Nat.le_of_ble_eq_true rfl) ?_
  intro J hJ
  have loop : ∀ (m n : Nat), n + m = 8 → J σ 4 [(0, mR 20 0), (1, mI id), (2, mI (idI (fnd (σ.1 22 0) id n))), (3, mI (nI n))] [] := by
    intro m
    induction m with
    | zero =>
      intro n hn
      have hn : n = 8 := by omega
      subst hn
      refine stp_j hJ 3 ⟨fun h => ?_, fun h => absurd (nI_le (Nat.le_refl 8) (by decide)) h⟩
      exact stp_j hJ 2 ⟨rfl, rfl⟩
    | succ m ih =>
      intro n hn
      have go : ∀ v, v = idI (fnd (σ.1 22 0) id (n + 1)) → J σ 29 [(0, mR 20 0), (1, mI id), (2, mI (idI (fnd (σ.1 22 0) id n))), (3, mI (nI n))] [mI v] := by
        intro v hv
        subst hv
        exact stp_j hJ 3 ⟨_, nI_1 n, ih (n + 1) (by omega)⟩
      refine stp_j hJ 3 ⟨fun h => absurd h (nI_ge (a := n) (b := 8) (by omega) (by decide)), fun _ => ?_⟩
      refine stp_j hJ 2 ⟨fun h => ?_, fun h => ?_⟩
      · refine stp_j hJ 1 (go _ ?_)
        rw [fnd, if_neg (fun z => absurd h (Int32.not_le.mpr z.1))]
      · refine stp_j hJ 6 ⟨i20, i22 (by decide), n, ix_nI (by omega) (by decide), _, rfl, fun h3 => ?_, fun h3 => ?_⟩
        · refine stp_j hJ 1 (go _ ?_)
          rw [fnd, if_neg (fun z => h3 z.2)]
        · refine stp_j hJ 2 (go _ ?_)
          rw [fnd, if_pos ⟨Int32.not_le.mp h, Decidable.not_not.mp h3⟩]
          rfl
  exact stp_j hJ 4 (loop 8 0 rfl)
theorem r_ends {σ : mS} {es : List (Int32 × Int32)} (h : EnIs σ es) (hl : es.length < 200) (id w : Int32) : Meets clR yX7_ends (kX7_ends :: wT) rX7_ends [mR 20 0, mI id, mI w] σ (fun r τ => r = none ∧ Fr qEn σ τ ∧ EnIs τ (es ++ [(id, w)])) := by
  refine Meets.of SX7_ends rfl (by decide) rfl (Nat.le_of_ble_eq_true rfl) ?_
  intro J hJ
  refine stp_j hJ 12 ⟨i20, i20, _, h.1, i29 (by decide), _, ix_nI hl (by decide), i20, i20, _, h.1, i29 (by decide), _, ix_nI hl (by decide), ?_⟩
  refine stp_j hJ 7 ⟨i20, _, h.1, _, nI_1 es.length, i20, rfl, ((Fr.oI (by simp [qEn])).andI (by simp [qEn])).andI (by simp [qEn]), ?_⟩
  refine ⟨by simp [u3], by simp; omega, fun p m hp => ?_⟩
  by_cases hpl : p < es.length
  · rw [List.getElem?_append_left hpl] at hp
    have hne : ¬ p = es.length := by omega
    have := h.2.2 p m hp
    simp [u3, hne, this]
  · rw [List.getElem?_append_right (by omega)] at hp
    have hz : p - es.length < 1 := (List.getElem?_eq_some_iff.mp hp).1
    have hpe : p = es.length := by omega
    subst hpe
    simp at hp
    subst hp
    simp [u3]
theorem nI_sub {a b : Nat} (h : b ≤ a) : nI a - nI b = nI (a - b) := by
  have e : nI a = nI (a - b) + nI b := by rw [nI_add, Nat.sub_add_cancel h]
  rw [e, Int32.add_sub_cancel]
theorem r_freeCells {σ : mS} {ms : List (Int32 × Int32 × Int32)} {ls : List (Int32 × Int32)} (h1 : MlIs σ ms) (h2 : LkIs σ ls) (h3 : ms.length + ls.length ≤ 24) : Meets clR yX7_freeCells (kX7_freeCells :: wT) rX7_freeCells [mR 20 0] σ (fun r τ => τ = σ ∧ r = some (mI (nI (24 - ms.length - ls.length)))) := by
  refine Meets.of SX7_freeCells rfl (by decide) rfl (Nat.le_of_ble_eq_true rfl) ?_
  intro J hJ
  exact stp_j hJ 8 ⟨i20, _, h1.1, nI (24 - ms.length), nI_sub (a := 24) (by omega), i20, _, h2.1, _, nI_sub (by omega), rfl, rfl⟩
theorem r_put {σ : mS} {os : List (Int32 × Int32)} (h : OuIs σ os) {s : Nat} (hs : s < 8) (v : Int32) : Meets clR yX7_put (kX7_put :: wT) rX7_put [mR 20 0, mI (nI s), mI v] σ (fun r τ => r = none ∧ Fr qOu σ τ ∧ OuIs τ (if os.length < 60 then os ++ [(v, σ.1 22 0 s)] else os)) := by
  refine Meets.of SX7_put rfl (by decide) rfl (Nat.le_of_ble_eq_true rfl) ?_
  intro J hJ
  have h6 := h.2.1
  refine stp_j hJ 4 ⟨i20, _, h.1, fun h2 => ?_, fun h2 => ?_⟩
  · have : 60 ≤ os.length := (nI_leI (a := 60) (by decide) (by omega)).mp h2
    refine stp_j hJ 1 ⟨rfl, Fr.rf, ?_⟩
    rw [if_neg (by omega)]
    exact h
  · have hl : os.length < 60 := Nat.not_le.mp (fun z => h2 ((nI_leI (a := 60) (by decide) (by omega)).mpr z))
    refine stp_j hJ 6 ⟨i20, i20, _, h.1, i28 (by decide), _, ix_nI hl (by decide), ?_⟩
    refine stp_j hJ 9 ⟨i20, i20, _, h.1, i20, i22 (by decide), s, ix_nI hs (by decide), _, rfl, i28 (by decide), _, ix_nI hl (by decide), ?_⟩
    refine stp_j hJ 7 ⟨i20, _, h.1, _, nI_1 os.length, i20, rfl, ((Fr.oI (by simp [qOu])).andI (by simp [qOu])).andI (by simp [qOu]), ?_⟩
    rw [if_pos hl]
    refine ⟨by simp [u3], by simp; omega, fun p m hp => ?_⟩
    by_cases hpl : p < os.length
    · rw [List.getElem?_append_left hpl] at hp
      have hne : ¬ p = os.length := by omega
      have := h.2.2 p m hp
      simp [u3, hne, this]
    · rw [List.getElem?_append_right (by omega)] at hp
      have hz : p - os.length < 1 := (List.getElem?_eq_some_iff.mp hp).1
      have hpe : p = os.length := by omega
      subst hpe
      simp at hp
      subst hp
      simp [u3]
theorem r_clock {σ : mS} {cs : List (Int32 × Int32 × Int32 × Bool)} (h : CkIs σ cs) (id t c : Int32) (l : Bool) : Meets clR yX7_clock (kX7_clock :: wT) rX7_clock [mR 20 0, mI id, mI t, mI c, mI (bI l)] σ (fun r τ => r = none ∧ Fr qCk σ τ ∧ CkIs τ (if cs.length < 10 then cs ++ [(id, σ.1 20 0 17 + t, c, l)] else cs)) := by
  refine Meets.of SX7_clock rfl (by decide) rfl (Nat.le_of_ble_eq_true rfl) ?_
  intro J hJ
  have h6 := h.2.1
  refine stp_j hJ 4 ⟨i20, _, h.1, fun h2 => ?_, fun h2 => ?_⟩
  · have : 10 ≤ cs.length := (nI_leI (a := 10) (by decide) (by omega)).mp h2
    refine stp_j hJ 1 ⟨rfl, Fr.rf, ?_⟩
    rw [if_neg (by omega)]
    exact h
  · have hl : cs.length < 10 := Nat.not_le.mp (fun z => h2 ((nI_leI (a := 10) (by decide) (by omega)).mpr z))
    refine stp_j hJ 6 ⟨i20, i20, _, h.1, i26 (by decide), _, ix_nI hl (by decide), ?_⟩
    refine stp_j hJ 9 ⟨i20, i20, _, h.1, i20, _, rfl, _, rfl, i26 (by decide), _, ix_nI hl (by decide), ?_⟩
    refine stp_j hJ 12 ⟨i20, i20, _, h.1, i26 (by decide), _, ix_nI hl (by decide), i20, i20, _, h.1, i27, _, ix_nI hl (by decide), bI01 l, ?_⟩
    refine stp_j hJ 7 ⟨i20, _, h.1, _, nI_1 cs.length, i20, rfl, ((((Fr.oI (by simp [qCk])).andI (by simp [qCk])).andI (by simp [qCk])).andI (by simp [qCk])).andI (by simp [qCk]), ?_⟩
    rw [if_pos hl]
    refine ⟨by simp [u3], by simp; omega, fun p m hp => ?_⟩
    by_cases hpl : p < cs.length
    · rw [List.getElem?_append_left hpl] at hp
      have hne : ¬ p = cs.length := by omega
      have := h.2.2 p m hp
      simp [u3, hne, this]
    · rw [List.getElem?_append_right (by omega)] at hp
      have hz : p - cs.length < 1 := (List.getElem?_eq_some_iff.mp hp).1
      have hpe : p = cs.length := by omega
      subst hpe
      simp at hp
      subst hp
      simp [u3]
