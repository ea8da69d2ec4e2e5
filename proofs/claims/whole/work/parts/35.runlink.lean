/-! The reference: unlink on the yard -/
theorem ku_one {y : Yd} (u : KU y) {a b : Int32} {q q' : Int32 × Int32} (hq : q ∈ yK y) (hq' : q' ∈ yK y) (h1 : isK a b q = true) (h2 : isK a b q' = true) : q = q' := by
  obtain ⟨i, hi, rfl⟩ := List.getElem_of_mem hq
  obtain ⟨j, hj, rfl⟩ := List.getElem_of_mem hq'
  have hu := List.pairwise_iff_getElem.mp u
  rcases Nat.lt_trichotomy i j with z | z | z
  · have := hu i j hi hj z
    rw [isK_tr h1 h2] at this
    cases this
  · subst z
    rfl
  · have := hu j i hj hi z
    rw [isK_tr h2 h1] at this
    cases this
theorem set_perm {α : Type} [DecidableEq α] (A B : List α) (q l : α) : (q :: (A ++ l :: B)).Perm (A ++ q :: B ++ [l]) := by
  rw [List.perm_iff_count]
  intro c
  simp [List.count_append, List.count_cons]
  omega
theorem unl_perm {ls : List (Int32 × Int32)} {l q : Int32 × Int32} {k : Nat} (hk : (ls ++ [l])[k]? = some q) : (q :: ls.set k l).Perm (ls ++ [l]) := by
  by_cases h : k < ls.length
  · rw [List.getElem?_append_left h] at hk
    have e : ls[k] = q := (List.getElem?_eq_some_iff.mp hk).2
    have e1 : ls = ls.take k ++ q :: ls.drop (k + 1) := by
      rw [← e, ← List.drop_eq_getElem_cons h, List.take_append_drop]
    have e2 : ls.set k l = ls.take k ++ l :: ls.drop (k + 1) := by
      rw [List.set_eq_take_append_cons_drop, if_pos h]
    rw [e2]
    have := set_perm (ls.take k) (ls.drop (k + 1)) q l
    rw [← e1] at this
    exact this
  · have hlt := (List.getElem?_eq_some_iff.mp hk).1
    simp at hlt
    have hke : k = ls.length := by omega
    subst hke
    simp at hk
    subst hk
    rw [List.set_eq_of_length_le (Nat.le_refl _)]
    exact (List.perm_append_comm (l₁ := ls) (l₂ := [l])).symm
theorem R_unlink {ρ : mS} {y : Yd} {ls es : List (Int32 × Int32)} (h : RRw ρ y ls es) (u : KU y) {k : Nat} {q : Int32 × Int32} (hk : ls[k]? = some q) {a b : Int32} (hq : isK a b q = true) : Meets clR yX7_unlink (kX7_unlink :: wT) rX7_unlink [mR 20 0, mI (nI k)] ρ (fun r τ => r = none ∧ (∃ ls', RRw τ (vR (vK y ((yK y).eraseP (isK a b))) (yR y + 1)) ls' es) ∧ τ.1 22 0 = ρ.1 22 0) := by
  have h7 := h.2.2.2.2.2.2.1
  have h8 := h.2.2.2.2.2.2.2.1
  have h12 := h.2.2.2.2.2.2.2.2.2.2.2
  have hkl : k < ls.length := (List.getElem?_eq_some_iff.mp hk).1
  obtain ⟨init, l, hl⟩ : ∃ p a, ls = p ++ [a] := by
    rcases List.eq_nil_or_concat ls with hz | ⟨p, a, hz⟩
    · rw [hz] at hkl
      simp at hkl
    · exact ⟨p, a, by simpa using hz⟩
  have hh := h
  subst hl
  simp at hkl
  refine (r_unlink h7 (k := k) (by omega)).mono ?_
  rintro r τ ⟨hr, f, g⟩
  have p1 := unl_perm hk
  have hqK : q ∈ yK y := h8.mem_iff.mp (List.mem_of_getElem? hk)
  obtain ⟨q0, l1, l2, _, z2, z3, z4⟩ := List.exists_of_eraseP hqK hq
  have hq0 : q0 ∈ yK y := by rw [z3]; simp
  have e0 : q0 = q := ku_one u hq0 hqK z2 hq
  subst e0
  have p2 : (yK y).Perm (q0 :: (yK y).eraseP (isK a b)) := by
    rw [z4]
    have : (l1 ++ q0 :: l2).Perm (q0 :: (l1 ++ l2)) := List.perm_middle
    rw [← z3] at this
    exact this
  have p3 : (init.set k l).Perm ((yK y).eraseP (isK a b)) := List.Perm.cons_inv (p1.trans (h8.trans p2))
  have := hh.lk f (n := yR y + 1) g p3 (by simp at h12 ⊢; omega)
  exact ⟨hr, ⟨_, this.1⟩, this.2⟩
