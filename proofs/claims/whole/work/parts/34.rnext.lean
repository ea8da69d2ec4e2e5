/-! The reference: nextAfter -/
theorem lkL_any (a b : Int32) (ls : List (Int32 × Int32)) : ∀ (n : Nat) (r : Option Nat), (lkL a b ls n r = none ↔ (ls.any (isK a b) = false ∧ r = none)) := by
  induction ls with
  | nil => intro n r; simp [lkL]
  | cons q qs ih =>
    intro n r
    rw [lkL, ih]
    by_cases h : isK a b q = true
    · simp [h]
    · simp [h]
theorem lkL_at (a b : Int32) (ls : List (Int32 × Int32)) : ∀ (n : Nat) (r : Option Nat) (p : Nat), lkL a b ls n r = some p → r = some p ∨ ∃ j q, p = n + j ∧ ls[j]? = some q ∧ isK a b q = true := by
  induction ls with
  | nil => intro n r p h; exact Or.inl h
  | cons q qs ih =>
    intro n r p h
    rw [lkL] at h
    rcases ih _ _ _ h with z | ⟨j, q', e1, e2, e3⟩
    · by_cases hk : isK a b q = true
      · rw [if_pos hk] at z
        refine Or.inr ⟨0, q, ?_, rfl, hk⟩
        injection z with z
        omega
      · rw [if_neg hk] at z
        exact Or.inl z
    · exact Or.inr ⟨j + 1, q', by omega, by simpa using e2, e3⟩
def NXb (w : Nat → Int32) (P : Int32 → Prop) (id : Int32) (n : Nat) (b : Option Nat) : Prop := match b with
  | none => ∀ t, t < n → ¬ (id < w t ∧ P (w t))
  | some s => s < n ∧ id < w s ∧ P (w s) ∧ ∀ t, t < n → id < w t → P (w t) → w s ≤ w t
theorem NXb.skip {w : Nat → Int32} {P : Int32 → Prop} {id : Int32} {n : Nat} {b : Option Nat} (h : NXb w P id n b) (hn : ¬ (id < w n ∧ P (w n))) : NXb w P id (n + 1) b := by
  cases b with
  | none =>
    intro t ht
    by_cases z : t = n
    · rw [z]; exact hn
    · exact h t (by omega)
  | some s =>
    refine ⟨by have := h.1; omega, h.2.1, h.2.2.1, fun t ht h1 h2 => ?_⟩
    by_cases z : t = n
    · subst z; exact absurd ⟨h1, h2⟩ hn
    · exact h.2.2.2 t (by omega) h1 h2
theorem NXb.first {w : Nat → Int32} {P : Int32 → Prop} {id : Int32} {n : Nat} (h : NXb w P id n none) (h1 : id < w n) (h2 : P (w n)) : NXb w P id (n + 1) (some n) := by
  refine ⟨by omega, h1, h2, fun t ht h3 h4 => ?_⟩
  by_cases z : t = n
  · rw [z]; exact Int32.le_refl _
  · exact absurd ⟨h3, h4⟩ (h t (by omega))
theorem NXb.less {w : Nat → Int32} {P : Int32 → Prop} {id : Int32} {n s : Nat} (h : NXb w P id n (some s)) (h1 : id < w n) (h2 : P (w n)) (hl : w n < w s) : NXb w P id (n + 1) (some n) := by
  refine ⟨by omega, h1, h2, fun t ht h3 h4 => ?_⟩
  by_cases z : t = n
  · rw [z]; exact Int32.le_refl _
  · exact Int32.le_trans (Int32.le_of_lt hl) (h.2.2.2 t (by omega) h3 h4)
theorem NXb.keep {w : Nat → Int32} {P : Int32 → Prop} {id : Int32} {n s : Nat} (h : NXb w P id n (some s)) (hl : w s ≤ w n) : NXb w P id (n + 1) (some s) := by
  refine ⟨by have := h.1; omega, h.2.1, h.2.2.1, fun t ht h3 h4 => ?_⟩
  by_cases z : t = n
  · rw [z]; exact hl
  · exact h.2.2.2 t (by omega) h3 h4
def nxP (y : Yd) (x : Int32) (lk : Bool) (j : Int32) : Prop := if lk = true then lkd y j x = true else yF y 2 j = x
theorem R_nextAfter {ρ : mS} {y : Yd} {ls es : List (Int32 × Int32)} (h : RRw ρ y ls es) {id : Int32} (hid : 0 ≤ id) (x : Int32) (lk : Bool) : Meets clR yX7_nextAfter (kX7_nextAfter :: wT) rX7_nextAfter [mR 20 0, mI id, mI x, mI (bI lk)] ρ (fun r τ => τ = ρ ∧ ∃ b, r = some (mI (idI b)) ∧ NXb (ρ.1 22 0) (nxP y x lk) id 8 b) := by
  refine Meets.of SX7_nextAfter rfl (by decide) rfl (Nat.le_of_ble_eq_true rfl) ?_
  intro J hJ
  have loop : ∀ (m n : Nat) (b : Option Nat), n + m = 8 → NXb (ρ.1 22 0) (nxP y x lk) id n b → J ρ 6 [(0, mR 20 0), (1, mI id), (2, mI x), (3, mI (bI lk)), (4, mI (idI b)), (5, mI (nI n))] [] := by
    intro m
    induction m with
    | zero =>
      intro n b hn hb
      have hn : n = 8 := by omega
      subst hn
      refine stp_j hJ 3 ⟨fun _ => ?_, fun h2 => absurd (nI_le (Nat.le_refl 8) (by decide)) h2⟩
      exact stp_j hJ 2 ⟨rfl, b, rfl, hb⟩
    | succ m ih =>
      intro n b hn hb
      have done : ∀ (v : mV) (b' : Option Nat), NXb (ρ.1 22 0) (nxP y x lk) id (n + 1) b' → J ρ 98 [(0, mR 20 0), (1, mI id), (2, mI x), (3, mI (bI lk)), (4, mI (idI b)), (5, mI (nI n)), (6, v)] [mI (idI b')] := by
        intro v b' hb'
        refine stp_j hJ 3 ⟨_, nI_1 n, ?_⟩
        exact j_pre hJ (lv := [(0, mR 20 0), (1, mI id), (2, mI x), (3, mI (bI lk)), (4, mI (idI b')), (5, mI (nI (n + 1)))]) (ext := [(6, v)]) (ih (n + 1) b' (by omega) hb')
      have no : ¬ (id < ρ.1 22 0 n ∧ nxP y x lk (ρ.1 22 0 n)) → J ρ 61 [(0, mR 20 0), (1, mI id), (2, mI x), (3, mI (bI lk)), (4, mI (idI b)), (5, mI (nI n))] [] := by
        intro hno
        refine stp_j hJ 4 ⟨fun _ => ?_, fun h2 => absurd rfl h2⟩
        exact stp_j hJ 1 (done _ b (hb.skip hno))
      have ye : id < ρ.1 22 0 n → nxP y x lk (ρ.1 22 0 n) → J ρ 57 [(0, mR 20 0), (1, mI id), (2, mI x), (3, mI (bI lk)), (4, mI (idI b)), (5, mI (nI n))] [] := by
        intro q1 q2
        refine stp_j hJ 5 ⟨fun h2 => absurd h2 (by decide), fun _ => ?_⟩
        cases b with
        | none =>
          refine stp_j hJ 2 ⟨fun _ => ?_, fun h2 => absurd (by decide) h2⟩
          exact stp_j hJ 2 (done _ (some n) (hb.first q1 q2))
        | some s =>
          have hs := hb.1
          refine stp_j hJ 2 ⟨fun h2 => absurd h2 (nI_pos (by omega)), fun _ => ?_⟩
          refine stp_j hJ 9 ⟨i20, i22 (by decide), n, ix_nI (by omega) (by decide), _, rfl, i20, i22 (by decide), s, ix_nI (by omega) (by decide), _, rfl, fun h5 => ?_, fun h5 => ?_⟩
          · exact stp_j hJ 1 (done _ (some s) (hb.keep h5))
          · exact stp_j hJ 2 (done _ (some n) (hb.less q1 q2 (Int32.not_le.mp h5)))
      refine stp_j hJ 3 ⟨fun h2 => absurd h2 (nI_ge (a := n) (b := 8) (by omega) (by decide)), fun _ => ?_⟩
      refine stp_j hJ 6 ⟨i20, i22 (by decide), n, ix_nI (by omega) (by decide), _, rfl, fun h3 => ?_, fun h3 => ?_⟩
      · exact no (fun z => absurd h3 (Int32.not_le.mpr z.1))
      · have h3 := Int32.not_le.mp h3
        have hn0 : ¬ ρ.1 22 0 n = 0 := by
          intro z
          rw [z] at h3
          exact absurd hid (Int32.not_le.mpr h3)
        cases lk with
        | true =>
          refine stp_j hJ 2 ⟨fun h4 => absurd h4 (by decide), fun _ => ?_⟩
          refine stp_j hJ 7 ⟨i20, i22 (by decide), n, ix_nI (by omega) (by decide), _, rfl, trivial, ⟨i20, trivial⟩, _, r_linkAt h.2.2.2.2.2.2.1 (ρ.1 22 0 n) x, ?_⟩
          rintro o τ ⟨w, rfl⟩
          have w := w.symm
          subst w
          have hk : lkd y (ρ.1 22 0 n) x = ls.any (isK (ρ.1 22 0 n) x) := (h.2.2.2.2.2.2.2.1.any_eq).symm
          have ha := lkL_any (ρ.1 22 0 n) x ls 0 none
          cases hc : lkL (ρ.1 22 0 n) x ls 0 none with
          | none =>
            refine stp_j hJ 1 ⟨fun _ => ?_, fun h5 => absurd (by decide) h5⟩
            refine no (fun z => ?_)
            have z2 : lkd y (ρ.1 22 0 n) x = true := z.2
            rw [hk, (ha.mp hc).1] at z2
            exact absurd z2 (by decide)
          | some p =>
            have z2 : lkd y (ρ.1 22 0 n) x = true := by
              rw [hk]
              cases hz : ls.any (isK (ρ.1 22 0 n) x) with
              | true => rfl
              | false => rw [ha.mpr ⟨hz, rfl⟩] at hc; cases hc
            refine stp_j hJ 1 ⟨fun h5 => ?_, fun _ => ?_⟩
            · rcases lkL_at (ρ.1 22 0 n) x ls 0 none p hc with z | ⟨j, q, e1, e2, _⟩
              · cases z
              · have hj : j < ls.length := (List.getElem?_eq_some_iff.mp e2).1
                have h24 := h.2.2.2.2.2.2.1.2.1
                exact absurd h5 (nI_pos (by omega))
            · exact stp_j hJ 1 (ye h3 z2)
        | false =>
          refine stp_j hJ 2 ⟨fun _ => ?_, fun h4 => absurd rfl h4⟩
          have hab := (h.2.1 n (by omega) hn0).2.2.2.1
          refine stp_j hJ 6 ⟨i20, i22 (by decide), n, ix_nI (by omega) (by decide), _, hab, fun h5 => ?_, fun h5 => ?_⟩
          · exact no (fun z => h5 z.2)
          · exact ye h3 (show yF y 2 (ρ.1 22 0 n) = x from Decidable.not_not.mp h5)
  exact stp_j hJ 4 (loop 8 0 none rfl (fun t ht => by omega))
