/-! The reference: one slot changed -/
abbrev qS (s : Nat) : Nat → Nat → Nat → Prop := fun k i p => (k = 22 ∧ 1 ≤ i ∧ i ≤ 6 ∧ p = s) ∨ (k = 23 ∧ p = s) ∨ (k = 24 ∧ 4 * s ≤ p ∧ p < 4 * s + 4) ∨ (k = 25 ∧ i = 0 ∧ 3 * s ≤ p ∧ p < 3 * s + 3)
theorem RRw.slot {ρ τ : mS} {y z : Yd} {ls es : List (Int32 × Int32)} (h : RRw ρ y ls es) {s : Nat} (hs : s < 8) {i : Int32} (hi : ρ.1 22 0 s = i) (f : Fr (qS s) ρ τ) (hsl : RSl τ z s i) (e1 : ∀ n j, ¬ j = i → yF z n j = yF y n j) (e2 : ∀ n j, ¬ j = i → yB z n j = yB y n j) (e3 : ∀ j, ¬ j = i → yH z j = yH y j) (e4 : z.2.2.2 = y.2.2.2) : RRw τ z ls es ∧ τ.1 22 0 = ρ.1 22 0 := by
  obtain ⟨h1, h2, h3, h4, h5, h6, h7, h8, h9, h10, h11, h12⟩ := h
  have eM : yM z = yM y := congrArg (fun q => q.1) e4
  have eK : yK z = yK y := congrArg (fun q => q.2.1) e4
  have eA : yA z = yA y := congrArg (fun q => q.2.2.1) e4
  have eQ : yQ z = yQ y := congrArg (fun q => q.2.2.2.1) e4
  have eT : yT z = yT y := congrArg (fun q => q.2.2.2.2.2.1) e4
  have eO : yO z = yO y := congrArg (fun q => q.2.2.2.2.2.2.1) e4
  have eC : yC z = yC y := congrArg (fun q => q.2.2.2.2.2.2.2.1) e4
  have eN : yN z = yN y := congrArg (fun q => q.2.2.2.2.2.2.2.2.1) e4
  have eR : yR z = yR y := congrArg (fun q => q.2.2.2.2.2.2.2.2.2.1) e4
  have eX : yX z = yX y := congrArg (fun q => q.2.2.2.2.2.2.2.2.2.2.1) e4
  have eL : yL z = yL y := congrArg (fun q => q.2.2.2.2.2.2.2.2.2.2.2) e4
  have hw : τ.1 22 0 = ρ.1 22 0 := by
    funext p
    exact f.1 22 0 p (by simp only [qS]; omega)
  refine ⟨⟨by rw [hw, eA]; exact h1, ?_, h3.fr f (fun k j p q => by simp only [qS] at q; omega) eC, ⟨?_, ?_, ?_⟩, ?_, ?_, h7.fr f ?_, by rw [eK]; exact h8, ?_, ?_, h11.fr f ?_, by rw [eM, eR]; exact h12⟩, hw⟩
  · intro t ht ht0
    rw [hw] at ht0 ⊢
    by_cases hts : t = s
    · rw [hts, hi]
      exact hsl
    · have hne : ¬ ρ.1 22 0 t = i := fun q => hts (h1.2.2 t s ht hs (q.trans hi.symm) ht0)
      refine (h2 t ht ht0).cg ?_ ?_ ?_ ?_ (fun n => e1 n _ hne) (fun n => e2 n _ hne) (e3 _ hne) (by rw [eL]; exact Nat.le_refl _)
      · intro k q1 q2
        exact f.1 22 k t (by simp only [qS]; omega)
      · intro k q1
        exact f.1 23 k t (by simp only [qS]; omega)
      · intro r _
        exact f.1 24 0 _ (by simp only [qS]; omega)
      · intro r _
        exact f.1 25 0 _ (by simp only [qS]; omega)
  · rw [eL, f.1 20 0 3 (by simp only [qS]; omega)]; exact h4.1
  · rw [eN, f.1 20 0 17 (by simp only [qS]; omega)]; exact h4.2.1
  · rw [eX, f.1 20 0 25 (by simp only [qS]; omega)]; exact h4.2.2
  · rw [eQ]
    refine h5.fr f ?_
    intro k j p q
    simp only [qS, qRo] at q ⊢
    omega
  · rw [eM]
    refine h6.fr f ?_
    intro k j p q
    simp only [qS, qMl] at q ⊢
    omega
  · intro k j p q
    simp only [qS, qLk] at q ⊢
    omega
  · rw [eT]
    refine h9.fr f ?_
    intro k j p q
    simp only [qS, qCk] at q ⊢
    omega
  · rw [eO]
    refine h10.fr f ?_
    intro k j p q
    simp only [qS, qOu] at q ⊢
    omega
  · intro k j p q
    simp only [qS, qEn] at q ⊢
    omega
theorem RRw.sl {ρ : mS} {y : Yd} {ls es : List (Int32 × Int32)} (h : RRw ρ y ls es) {s : Nat} (hs : s < 8) {i : Int32} (hi : ρ.1 22 0 s = i) (hi0 : ¬ i = 0) : RSl ρ y s i := by
  have := h.2.1 s hs (by rw [hi]; exact hi0)
  rw [hi] at this
  exact this
theorem RRw.reg {ρ : mS} {y : Yd} {ls es : List (Int32 × Int32)} (h : RRw ρ y ls es) {s : Nat} (hs : s < 8) {i : Int32} (hi : ρ.1 22 0 s = i) (hi0 : ¬ i = 0) {r : Nat} (hr : r < 4) (v : Int32) : RRw (sI ρ 24 0 (4 * s + r) v) (setF y (8 + r) i v) ls es ∧ (sI ρ 24 0 (4 * s + r) v).1 22 0 = ρ.1 22 0 := by
  obtain ⟨a1, a2, a3, a4, a5, a6, a7, a8, b, hb, a9, a10, a11, a12, a13⟩ := h.sl hs hi hi0
  have n0 : ∀ n, n < 8 → yF (setF y (8 + r) i v) n i = yF y n i := by
    intro n hn
    have : ¬ n = 8 + r := by omega
    simp [setF, yFvF, up2, this]
  refine h.slot hs hi (Fr.oI (by simp [qS]; omega)) ⟨?_, ?_, ?_, ?_, ?_, ?_, ?_, ?_, b, hb, ?_, ?_, ?_, ?_, ?_⟩ ?_ (fun n j _ => rfl) (fun j _ => rfl) rfl
  · rw [n0 3 (by decide)]; simpa [u3] using a1
  · rw [n0 0 (by decide)]; simpa [u3] using a2
  · rw [n0 1 (by decide)]; simpa [u3] using a3
  · rw [n0 2 (by decide)]; simpa [u3] using a4
  · rw [n0 4 (by decide)]; simpa [u3] using a5
  · simpa [u3, setF, yBvF] using a6
  · simpa [u3, setF, yBvF] using a7
  · intro r' hr'
    by_cases hz : r' = r
    · subst hz
      simp [u3, setF, yFvF, up2]
    · have := a8 r' hr'
      simp [u3, setF, yFvF, up2, hz, this]
  · simpa [u3] using a9
  · rw [n0 5 (by decide)]; exact a10
  · simpa [u3, setF, yHvF] using a11
  · simpa [u3, setF, yHvF] using a12
  · simpa [u3, setF, yHvF] using a13
  · intro n j hj
    simp [setF, yFvF, up2, hj]
theorem RRw.at' {ρ : mS} {y : Yd} {ls es : List (Int32 × Int32)} (h : RRw ρ y ls es) {s : Nat} (hs : s < 8) {i : Int32} (hi : ρ.1 22 0 s = i) (hi0 : ¬ i = 0) (v : Int32) : RRw (sI ρ 22 1 s v) (setF y 3 i v) ls es ∧ (sI ρ 22 1 s v).1 22 0 = ρ.1 22 0 := by
  obtain ⟨a1, a2, a3, a4, a5, a6, a7, a8, b, hb, a9, a10, a11, a12, a13⟩ := h.sl hs hi hi0
  have n0 : ∀ n, ¬ n = 3 → yF (setF y 3 i v) n i = yF y n i := by
    intro n hn
    simp [setF, yFvF, up2, hn]
  refine h.slot hs hi (Fr.oI (by simp [qS])) ⟨?_, ?_, ?_, ?_, ?_, ?_, ?_, ?_, b, hb, ?_, ?_, ?_, ?_, ?_⟩ ?_ (fun n j _ => rfl) (fun j _ => rfl) rfl
  · simp [u3, setF, yFvF, up2]
  · rw [n0 0 (by decide)]; simpa [u3] using a2
  · rw [n0 1 (by decide)]; simpa [u3] using a3
  · rw [n0 2 (by decide)]; simpa [u3] using a4
  · rw [n0 4 (by decide)]; simpa [u3] using a5
  · simpa [u3, setF, yBvF] using a6
  · simpa [u3, setF, yBvF] using a7
  · intro r' hr'
    rw [n0 (8 + r') (by omega)]
    simpa [u3] using a8 r' hr'
  · simpa [u3] using a9
  · rw [n0 5 (by decide)]; exact a10
  · simpa [u3, setF, yHvF] using a11
  · simpa [u3, setF, yHvF] using a12
  · simpa [u3, setF, yHvF] using a13
  · intro n j hj
    simp [setF, yFvF, up2, hj]
theorem RRw.tu {ρ : mS} {y : Yd} {ls es : List (Int32 × Int32)} (h : RRw ρ y ls es) {s : Nat} (hs : s < 8) {i : Int32} (hi : ρ.1 22 0 s = i) (hi0 : ¬ i = 0) (v : Int32) : RRw (sI ρ 22 5 s v) (setF y 4 i v) ls es ∧ (sI ρ 22 5 s v).1 22 0 = ρ.1 22 0 := by
  obtain ⟨a1, a2, a3, a4, a5, a6, a7, a8, b, hb, a9, a10, a11, a12, a13⟩ := h.sl hs hi hi0
  have n0 : ∀ n, ¬ n = 4 → yF (setF y 4 i v) n i = yF y n i := by
    intro n hn
    simp [setF, yFvF, up2, hn]
  refine h.slot hs hi (Fr.oI (by simp [qS])) ⟨?_, ?_, ?_, ?_, ?_, ?_, ?_, ?_, b, hb, ?_, ?_, ?_, ?_, ?_⟩ ?_ (fun n j _ => rfl) (fun j _ => rfl) rfl
  · rw [n0 3 (by decide)]; simpa [u3] using a1
  · rw [n0 0 (by decide)]; simpa [u3] using a2
  · rw [n0 1 (by decide)]; simpa [u3] using a3
  · rw [n0 2 (by decide)]; simpa [u3] using a4
  · simp [u3, setF, yFvF, up2]
  · simpa [u3, setF, yBvF] using a6
  · simpa [u3, setF, yBvF] using a7
  · intro r' hr'
    rw [n0 (8 + r') (by omega)]
    simpa [u3] using a8 r' hr'
  · simpa [u3] using a9
  · rw [n0 5 (by decide)]; exact a10
  · simpa [u3, setF, yHvF] using a11
  · simpa [u3, setF, yHvF] using a12
  · simpa [u3, setF, yHvF] using a13
  · intro n j hj
    simp [setF, yFvF, up2, hj]
theorem RRw.bo {ρ : mS} {y : Yd} {ls es : List (Int32 × Int32)} (h : RRw ρ y ls es) {s : Nat} (hs : s < 8) {i : Int32} (hi : ρ.1 22 0 s = i) (hi0 : ¬ i = 0) {w : Nat} (hw : w < 2) (v : Bool) : RRw (sI ρ 23 w s (bI v)) (setB y w i v) ls es ∧ (sI ρ 23 w s (bI v)).1 22 0 = ρ.1 22 0 := by
  obtain ⟨a1, a2, a3, a4, a5, a6, a7, a8, b, hb, a9, a10, a11, a12, a13⟩ := h.sl hs hi hi0
  refine h.slot hs hi (Fr.oI (by simp [qS])) ⟨?_, ?_, ?_, ?_, ?_, ?_, ?_, ?_, b, hb, ?_, ?_, ?_, ?_, ?_⟩ (fun n j _ => rfl) ?_ (fun j _ => rfl) rfl
  · simpa [u3, setB, yFvB] using a1
  · simpa [u3, setB, yFvB] using a2
  · simpa [u3, setB, yFvB] using a3
  · simpa [u3, setB, yFvB] using a4
  · simpa [u3, setB, yFvB] using a5
  · by_cases hz : w = 0
    · subst hz
      simp [u3, setB, yBvB, up2]
    · have hz' : ¬ 0 = w := fun q => hz q.symm
      simp [u3, setB, yBvB, up2, hz', a6]
  · by_cases hz : w = 1
    · subst hz
      simp [u3, setB, yBvB, up2]
    · have hz' : ¬ 1 = w := fun q => hz q.symm
      simp [u3, setB, yBvB, up2, hz', a7]
  · intro r' hr'
    simpa [u3, setB, yFvB] using a8 r' hr'
  · simpa [u3] using a9
  · exact a10
  · simpa [u3, setB, yHvB] using a11
  · simpa [u3, setB, yHvB] using a12
  · simpa [u3, setB, yHvB] using a13
  · intro n j hj
    simp [setB, yBvB, up2, hj]
