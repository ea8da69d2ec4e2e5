/-! The reference: settle -/
theorem R_end0 {ρ : mS} {y : Yd} {ls es : List (Int32 × Int32)} (h : RRw ρ y ls es) {x : Int32} (hx : ¬ x ∈ yA y) (r : Int32) : Meets clR yX7_end (kX7_end :: wT) rX7_end [mR 20 0, mI x, mI r] ρ (fun o τ => o = none ∧ τ = ρ) := by
  refine Meets.of SX7_end rfl (by decide) rfl (Nat.le_of_ble_eq_true rfl) ?_
  intro J hJ
  refine stp_j hJ 3 ⟨trivial, ⟨i20, trivial⟩, _, r_find ρ x, ?_⟩
  rintro o τ ⟨w, rfl⟩
  have w := w.symm
  subst w
  rcases h.1.fd x with ⟨s, hs, e, hi, hA, hp⟩ | ⟨e, hA⟩
  · exact absurd hA hx
  · rw [e]
    refine stp_j hJ 3 ⟨fun h2 => absurd h2 (by decide), fun _ => ?_⟩
    exact stp_j hJ 1 ⟨rfl, rfl⟩
theorem settles_nil : ∀ (m : Nat) {y : Yd}, yE y = [] → ySettles m y = y
  | 0, _, _ => rfl
  | m + 1, y, h => by rw [ySettles, h]
theorem settles_cons {m : Nat} {y : Yd} {e : Int32 × Int32} {l : List (Int32 × Int32)} (h : yE y = e :: l) : ySettles (m + 1) y = ySettles m (ySettle y) := by rw [ySettles, h]
theorem settle_A {y : Yd} (q : Full y) {x r : Int32} {l : List (Int32 × Int32)} (h : yE y = (x, r) :: l) {i : Int32} (hi : i ∈ yA (ySettle y)) : (i ∈ yA y ∧ ¬ i = x) ∨ i = yL y + 1 := by
  have ivb : InvY (yBury y x) := q.1.bury h
  have hkx := exits_inv x r (yA (yBury y x)) (yBury y x) ivb q.2.1 (fun z hz => hz)
  obtain ⟨iv1, ku1, sub1, eA1, eL1, eN1, eH1, eC1, eF1, _, _⟩ := hkx
  have hoi := orph_inv x (yA (yBury y x)) (yExits x r (yA (yBury y x)) (yBury y x)) iv1 (fun z hz => by rw [eA1]; exact hz)
  obtain ⟨iv2, eK2, eA2, eL2, eN2, eH2, eC2, eF2⟩ := hoi
  have eS : ySettle y = tl r x (yOrph x (yA (yBury y x)) (yExits x r (yA (yBury y x)) (yBury y x))) := by
    unfold ySettle
    rw [h]
    show (if r = 0 then _ else _) = _
    unfold tl
    rfl
  have base : ∀ i, i ∈ yA (yOrph x (yA (yBury y x)) (yExits x r (yA (yBury y x)) (yBury y x))) → (i ∈ yA y ∧ ¬ i = x) := by
    intro i hi
    rw [eA2, eA1] at hi
    have hi : i ∈ (yA y).erase x := hi
    have := ((pw_nd q.1.1.1).mem_erase_iff).mp hi
    exact ⟨this.2, this.1⟩
  have eL : yL (yOrph x (yA (yBury y x)) (yExits x r (yA (yBury y x)) (yBury y x))) = yL y := by rw [eL2, eL1]; rfl
  rw [eS] at hi
  revert hi base eL
  generalize yOrph x (yA (yBury y x)) (yExits x r (yA (yBury y x)) (yBury y x)) = z
  intro hi base eL
  unfold tl at hi
  split at hi
  · exact Or.inl (base i hi)
  · unfold yTell at hi
    split at hi
    · split at hi
      · unfold yBegin at hi
        split at hi
        · have hi : i ∈ yA (yNew (yHist z (yF z 2 x)) (yF z 0 x) (yF z 1 x) (yF z 2 x)) := hi
          rw [yA_new] at hi
          rcases List.mem_append.mp hi with q | q
          · exact Or.inl (base i q)
          · have : i = yL z + 1 := List.mem_singleton.mp q
            rw [eL] at this
            exact Or.inr this
        · exact Or.inl (base i hi)
      · rw [yA_end] at hi
        exact Or.inl (base i hi)
    · exact Or.inl (base i hi)
theorem R_settle {ρ : mS} {y : Yd} {ls es : List (Int32 × Int32)} (h : RRw ρ y ls es) (q : Full y) (hL : (yL y).toInt + 200 < 2147483647) (hN : yN y < 2 ^ 31) (hov : OvI y) (he : EE y es) (hB : es.length + psi y ≤ 200) : Meets clR yX7_settle (kX7_settle :: wT) rX7_settle [mR 20 0] ρ (fun o τ => o = none ∧ ∃ ls', RRw τ (ySettles 1000 y) ls' [] ∧ yE (ySettles 1000 y) = [] ∧ ∀ t, t < 8 → ¬ ρ.1 22 0 t = 0 → ρ.1 22 0 t ∈ yA (ySettles 1000 y) → τ.1 22 0 t = ρ.1 22 0 t) := by
  refine Meets.of SX7_settle rfl (by decide) rfl (Nat.le_of_ble_eq_true rfl) ?_
  intro J hJ
  have loop : ∀ (j k m : Nat) (ρ' : mS) (y' : Yd) (ls' es' : List (Int32 × Int32)), j + k = 200 → RRw ρ' y' ls' es' → Full y' → (yL y').toInt ≤ (yL y).toInt + k → yL y ≤ yL y' → yN y' = yN y → OvI y' → EE y' (es'.drop k) → k ≤ es'.length → es'.length + psi y' ≤ 200 → ySettles m y' = ySettles 1000 y → 1000 ≤ m + k → (∀ t, t < 8 → ¬ ρ.1 22 0 t = 0 → ρ.1 22 0 t ∈ yA y' → ρ'.1 22 0 t = ρ.1 22 0 t) → J ρ' 2 [(0, mR 20 0), (1, mI (nI k))] [] := by
    intro j
    induction j with
    | zero =>
      intro k m ρ' y' ls' es' hj h' q' hl1 hl2 hn ho he' hk hb hs hm hw
      have hk2 : es'.length = k := by omega
      have hen := h'.2.2.2.2.2.2.2.2.2.2.1
      refine stp_j hJ 4 ⟨i20, _, hen.1, fun _ => ?_, fun h2 => absurd (nI_le (by omega) (by omega)) h2⟩
      have hnil : yE y' = [] := by
        rw [he'.1, List.drop_of_length_le (by omega)]
        rfl
      have hY : ySettles 1000 y = y' := by rw [← hs]; exact settles_nil m hnil
      have hz := h'.en (es' := []) (τ := sI ρ' 20 0 34 0) (Fr.oI (by simp [qEn])) ⟨by simp [u3]; rfl, by simp, fun p x hp => by simp at hp⟩
      refine stp_j hJ 4 ⟨i20, rfl, ls', ?_, ?_, ?_⟩
      · rw [hY]; exact hz.1
      · rw [hY]; exact hnil
      · intro t ht h0 hA
        rw [hY] at hA
        rw [hz.2]
        exact hw t ht h0 hA
    | succ j ih =>
      intro k m ρ' y' ls' es' hj h' q' hl1 hl2 hn ho he' hk hb hs hm hw
      have hen := h'.2.2.2.2.2.2.2.2.2.2.1
      by_cases hk2 : es'.length = k
      · refine stp_j hJ 4 ⟨i20, _, hen.1, fun _ => ?_, fun h2 => absurd (nI_le (by omega) (by omega)) h2⟩
        have hnil : yE y' = [] := by
          rw [he'.1, List.drop_of_length_le (by omega)]
          rfl
        have hY : ySettles 1000 y = y' := by rw [← hs]; exact settles_nil m hnil
        have hz := h'.en (es' := []) (τ := sI ρ' 20 0 34 0) (Fr.oI (by simp [qEn])) ⟨by simp [u3]; rfl, by simp, fun p x hp => by simp at hp⟩
        refine stp_j hJ 4 ⟨i20, rfl, ls', ?_, ?_, ?_⟩
        · rw [hY]; exact hz.1
        · rw [hY]; exact hnil
        · intro t ht h0 hA
          rw [hY] at hA
          rw [hz.2]
          exact hw t ht h0 hA
      · have hlt : k < es'.length := by omega
        refine stp_j hJ 4 ⟨i20, _, hen.1, fun h2 => absurd h2 (nI_ge hlt (by omega)), fun _ => ?_⟩
        have hx : es'[k]? = some es'[k] := List.getElem?_eq_getElem hlt
        have hdr : es'.drop k = es'[k] :: es'.drop (k + 1) := List.drop_eq_getElem_cons hlt
        generalize es'[k] = e at hx hdr
        obtain ⟨x, r⟩ := e
        rw [hdr] at he'
        obtain ⟨r1, r2⟩ := hen.2.2 k (x, r) hx
        have r1 : ρ'.1 29 0 k = x := r1
        have r2 : ρ'.1 29 1 k = r := r2
        by_cases hA : x ∈ yA y'
        · refine stp_j hJ 10 ⟨i20, i29 (by decide), k, ix_nI (by omega) (by decide), x, r1, i20, i29 (by decide), k, ix_nI (by omega) (by decide), r, r2, trivial, ⟨i20, trivial⟩, _, R_end h' q' (by omega) (by rw [hn]; exact hN) ho he' hA (by omega), ?_⟩
          rintro o τ ⟨w, ls2, ex, g1, g2, g3, g4⟩
          subst w
          have hE := (he'.bury (pw_nd q'.1.1.1) hA).1
          obtain ⟨f1, f2, f3⟩ := q'.settle (by omega)
          obtain ⟨m', rfl⟩ : ∃ m', m = m' + 1 := ⟨m - 1, by omega⟩
          rw [settles_cons hE] at hs
          have hup := i_up (x := yL y') (by omega) f2
          refine stp_j hJ 2 ⟨_, nI_1 k, ?_⟩
          refine ih (k + 1) m' τ (ySettle y') ls2 (es' ++ ex) (by omega) g1 f1 ?_ (Int32.le_trans hl2 hup) (f3.trans hn) (ho.st (StR.settle q'.1.1.2.1) hup) ?_ ?_ (by omega) hs (by omega) ?_
          · rcases f2 with z | z
            · rw [z]; omega
            · rw [z, toInt_succ (by omega)]; omega
          · rw [List.drop_append_of_le_length (by omega)]
            exact g2
          · rw [List.length_append]; omega
          · intro t ht h0 hA2
            have hle : ρ.1 22 0 t ≤ yL y := by
              rcases h.1.1 t ht with z | z
              · exact absurd z h0
              · exact (q.1.2.2.2.2.2.2.1 _ z.1).2
            rcases settle_A q' hE hA2 with z | z
            · have h3 := hw t ht h0 z.1
              rw [g4 t ht (by rw [h3]; exact h0) (by rw [h3]; exact z.2), h3]
            · have h4 := Int32.le_trans hle hl2
              rw [z] at h4
              exact absurd (l_lt (show (yL y').toInt < 2147483647 by omega)) (Int32.not_lt.mpr h4)
        · refine stp_j hJ 10 ⟨i20, i29 (by decide), k, ix_nI (by omega) (by decide), x, r1, i20, i29 (by decide), k, ix_nI (by omega) (by decide), r, r2, trivial, ⟨i20, trivial⟩, _, R_end0 h' hA r, ?_⟩
          rintro o τ ⟨w, w2⟩
          have w2 := w2.symm
          subst w w2
          refine stp_j hJ 2 ⟨_, nI_1 k, ?_⟩
          exact ih (k + 1) m ρ' y' ls' es' (by omega) h' q' (by omega) hl2 hn ho (he'.skip hA) (by omega) hb hs (by omega) hw
  exact stp_j hJ 2 (loop 200 0 1000 ρ y ls es rfl h q (by omega) (Int32.le_refl _) rfl hov he (Nat.zero_le _) hB rfl (Nat.le_refl _) (fun _ _ _ _ => rfl))
