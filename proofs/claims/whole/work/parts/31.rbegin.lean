/-! The reference: begin -/
theorem RWho.len {w : Nat → Int32} {A : List Int32} (h : RWho w A) (hn : A.Nodup) : A.length = ((List.range 8).filter (fun s => decide (¬ w s = 0))).length := by
  have hp : A.Perm (((List.range 8).filter (fun s => decide (¬ w s = 0))).map w) := by
    refine (List.perm_ext_iff_of_nodup hn ?_).mpr ?_
    · refine List.Pairwise.map _ (fun a b hab => hab) ?_
      refine List.Pairwise.imp_of_mem (R := fun a b => a ≠ b) ?_ (List.Pairwise.filter _ List.nodup_range)
      intro a b ha hb hne hab
      rw [List.mem_filter, List.mem_range] at ha hb
      exact hne (h.2.2 a b ha.1 hb.1 hab (of_decide_eq_true ha.2))
    · intro i
      rw [List.mem_map]
      constructor
      · intro hi
        obtain ⟨s, hs, e, hp⟩ := h.2.1 i hi
        refine ⟨s, List.mem_filter.mpr ⟨List.mem_range.mpr hs, decide_eq_true ?_⟩, e⟩
        intro z
        rw [← e, z] at hp
        exact absurd hp (by decide)
      · rintro ⟨s, hs, rfl⟩
        rw [List.mem_filter, List.mem_range] at hs
        rcases h.1 s hs.1 with z | z
        · exact absurd z (of_decide_eq_true hs.2)
        · exact z.1
  rw [hp.length_eq, List.length_map]
theorem RWho.full {w : Nat → Int32} {A : List Int32} (h : RWho w A) (hn : A.Nodup) (hz : ∀ s, s < 8 → ¬ w s = 0) : ¬ A.length < 8 := by
  rw [h.len hn, List.filter_eq_self.mpr (fun s hs => decide_eq_true (hz s (List.mem_range.mp hs)))]
  decide
theorem RWho.room {w : Nat → Int32} {A : List Int32} (h : RWho w A) (hn : A.Nodup) {s : Nat} (hs : s < 8) (hz : w s = 0) : A.length < 8 := by
  rw [h.len hn]
  have : ((List.range 8).filter (fun s => decide (¬ w s = 0))).length < (List.range 8).length := by
    rw [List.length_filter_lt_length_iff_exists]
    exact ⟨s, List.mem_range.mpr hs, by simp [hz]⟩
  simpa using this
theorem yF_new (y : Yd) (et ar ov : Int32) (n : Nat) (j : Int32) : yF (yNew y et ar ov) n j = if j = yL y + 1 then nF et ar ov n else yF y n j := by
  simp only [yNew, yReady, setF, setB, yFvQ, yFvF, yFvB, yFvA, yFvL, yFvH, up2]
  by_cases h : j = yL y + 1
  · by_cases hn : n = 4
    · subst hn
      simp [h, nF]
    · simp [h, hn]
  · simp [h]
theorem yB_new (y : Yd) (et ar ov : Int32) (n : Nat) (j : Int32) : yB (yNew y et ar ov) n j = if j = yL y + 1 then false else yB y n j := by
  simp only [yNew, yReady, setF, setB, yBvQ, yBvF, yBvB, yBvA, yBvL, yBvH, up2]
  by_cases h : j = yL y + 1
  · simp [h]
  · simp [h]
theorem yH_new (y : Yd) (et ar ov : Int32) (j : Int32) : yH (yNew y et ar ov) j = if j = yL y + 1 then (-10, -10, -10) else yH y j := by
  simp only [yNew, yReady, setF, setB, yHvQ, yHvF, yHvB, yHvA, yHvL, yHvH, up1]
abbrev qBg (s : Nat) : Nat → Nat → Nat → Prop := fun k i p => (k = 20 ∧ p = 3) ∨ (k = 22 ∧ i ≤ 6 ∧ p = s) ∨ (k = 23 ∧ p = s) ∨ (k = 24 ∧ 4 * s ≤ p ∧ p < 4 * s + 4) ∨ qRo k i p
theorem RRw.new {ρ τ : mS} {y : Yd} {ls es : List (Int32 × Int32)} (h : RRw ρ y ls es) {s : Nat} (hs : s < 8) (hz : ρ.1 22 0 s = 0) {N : Nat} (hN : yL y = nI N) (hN2 : N + 1 < 2 ^ 31) (hA : ∀ i, i ∈ yA y → i ≤ yL y) (et ar ov : Int32) (f : Fr (qBg s) ρ τ) (g0 : τ.1 20 0 3 = yL y + 1) (gw : τ.1 22 0 s = yL y + 1) (g1 : τ.1 22 1 s = et) (g2 : τ.1 22 2 s = et) (g3 : τ.1 22 3 s = ar) (g4 : τ.1 22 4 s = ov) (g5 : τ.1 22 5 s = 0) (g6 : τ.1 22 6 s = 0) (g7 : τ.1 23 0 s = 0) (g8 : τ.1 23 1 s = 0) (g9 : ∀ r, r < 4 → τ.1 24 0 (4 * s + r) = if r = 0 then ar else 0) (gq : RoIs τ (yQ y ++ [yL y + 1])) : RRw τ (yNew y et ar ov) ls es := by
  obtain ⟨h1, h2, h3, h4, h5, h6, h7, h8, h9, h10, h11, h12⟩ := h
  have hL1 : yL y + 1 = nI (N + 1) := by rw [hN, nI_1]
  have hp : 0 < yL y + 1 := by
    rw [hL1]
    exact nI_lt (a := 0) (by omega) hN2
  have hp0 : ¬ yL y + 1 = 0 := by
    intro z
    rw [z] at hp
    exact absurd hp (by decide)
  have hnA : ¬ yL y + 1 ∈ yA y := by
    intro z
    have := hA _ z
    rw [hL1, hN] at this
    exact absurd this (nI_ge (by omega) hN2)
  have ho : ∀ t, ¬ t = s → τ.1 22 0 t = ρ.1 22 0 t := fun t ht => f.1 22 0 t (by simp only [qBg, qRo]; omega)
  have hne : ∀ t, t < 8 → ¬ ρ.1 22 0 t = yL y + 1 := by
    intro t ht z
    rcases h1.1 t ht with q | q
    · exact hp0 (z.symm.trans q)
    · rw [z] at q
      exact hnA q.1
  refine ⟨⟨?_, ?_, ?_⟩, ?_, ?_, ⟨?_, ?_, ?_⟩, ?_, ?_, h7.fr f ?_, ?_, ?_, ?_, h11.fr f ?_, ?_⟩
  · intro t ht
    rw [yA_new]
    by_cases hts : t = s
    · rw [hts, gw]
      exact Or.inr ⟨by simp, hp⟩
    · rw [ho t hts]
      rcases h1.1 t ht with q | q
      · exact Or.inl q
      · exact Or.inr ⟨List.mem_append_left _ q.1, q.2⟩
  · intro i hi
    rw [yA_new, List.mem_append, List.mem_singleton] at hi
    rcases hi with hi | hi
    · obtain ⟨t, ht, e, q⟩ := h1.2.1 i hi
      refine ⟨t, ht, ?_, q⟩
      rw [ho t, e]
      intro hts
      rw [hts, hz] at e
      rw [← e] at q
      exact absurd q (by decide)
    · subst hi
      exact ⟨s, hs, gw, hp⟩
  · intro a b ha hb hab hna
    by_cases has : a = s
    · by_cases hbs : b = s
      · rw [has, hbs]
      · rw [has, gw, ho b hbs] at hab
        exact absurd hab.symm (hne b hb)
    · by_cases hbs : b = s
      · rw [hbs, gw, ho a has] at hab
        exact absurd hab (hne a ha)
      · rw [ho a has, ho b hbs] at hab
        rw [ho a has] at hna
        exact h1.2.2 a b ha hb hab hna
  · intro t ht ht0
    by_cases hts : t = s
    · subst hts
      rw [gw]
      refine ⟨?_, ?_, ?_, ?_, ?_, ?_, ?_, ?_, 0, Nat.zero_le _, ?_, ?_, ?_, ?_, ?_⟩
      · rw [g1, yF_new, if_pos rfl]; rfl
      · rw [g2, yF_new, if_pos rfl]; rfl
      · rw [g3, yF_new, if_pos rfl]; rfl
      · rw [g4, yF_new, if_pos rfl]; rfl
      · rw [g5, yF_new, if_pos rfl]; rfl
      · rw [g7, yB_new, if_pos rfl]; rfl
      · rw [g8, yB_new, if_pos rfl]; rfl
      · intro r hr
        rw [g9 r hr, yF_new, if_pos rfl]
        have : r = 0 ∨ r = 1 ∨ r = 2 ∨ r = 3 := by omega
        rcases this with rfl | rfl | rfl | rfl <;> rfl
      · rw [g6, nI_0]
      · rw [yF_new, if_pos rfl, nI_0]; rfl
      · rw [yH_new, if_pos rfl]; rfl
      · rw [yH_new, if_pos rfl]; rfl
      · rw [yH_new, if_pos rfl]; rfl
    · rw [ho t hts] at ht0 ⊢
      refine (h2 t ht ht0).cg ?_ ?_ ?_ ?_ (fun n => by rw [yF_new, if_neg (hne t ht)]) (fun n => by rw [yB_new, if_neg (hne t ht)]) (by rw [yH_new, if_neg (hne t ht)]) ?_
      · intro k q1 q2
        exact f.1 22 k t (by simp only [qBg, qRo]; omega)
      · intro k q1
        exact f.1 23 k t (by simp only [qBg, qRo]; omega)
      · intro r _
        exact f.1 24 0 _ (by simp only [qBg, qRo]; omega)
      · intro r _
        exact f.1 25 0 _ (by simp only [qBg, qRo]; omega)
      · rw [yL_new, hL1, hN, nI_clamp (by omega), nI_clamp (by omega)]
        omega
  · exact h3.fr f (fun k i p z => by simp only [qBg, qRo] at z; omega) (yC_new _ _ _ _)
  · rw [g0, yL_new]
  · rw [yN_new, f.1 20 0 17 (by simp only [qBg, qRo]; omega)]; exact h4.2.1
  · rw [yX_new, f.1 20 0 25 (by simp only [qBg, qRo]; omega)]; exact h4.2.2
  · rw [yQ_new]; exact gq
  · rw [yM_new]
    refine h6.fr f ?_
    intro k j p z
    simp only [qBg, qRo, qMl] at z ⊢
    omega
  · intro k j p z
    simp only [qBg, qRo, qLk] at z ⊢
    omega
  · rw [yK_new]; exact h8
  · rw [yT_new]
    refine h9.fr f ?_
    intro k j p z
    simp only [qBg, qRo, qCk] at z ⊢
    omega
  · rw [yO_new]
    refine h10.fr f ?_
    intro k j p z
    simp only [qBg, qRo, qOu] at z ⊢
    omega
  · intro k j p z
    simp only [qBg, qRo, qEn] at z ⊢
    omega
  · rw [yM_new, yR_new]; exact h12
