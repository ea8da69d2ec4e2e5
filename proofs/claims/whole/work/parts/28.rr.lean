/-! The reference's memory holds the yard -/
theorem Meets.mono {cl : mC} {y : MethodName} {ws : List Cond} {rm : Room} {av : List mV} {σ : mS} {post post' : mPo} (h : Meets cl y ws rm av σ post) (hp : ∀ r τ, post r τ → post' r τ) : Meets cl y ws rm av σ post' := by
  intro l D cA ad sz
  refine MetFree.mono (h l D cA ad sz) (fun _ _ z => z) (fun _ _ _ _ _ z => z) ?_
  rintro a st o t _ ⟨⟨⟨r, τ, e, q, v⟩, w⟩, z⟩
  exact ⟨⟨⟨r, τ, e, hp r τ q, v⟩, w⟩, z⟩
abbrev mCk : Type := Int32 × Int32 × Int32 × Bool
def ckI (t : Int32 × Int × Int32 × Bool) : mCk := (t.1, Int32.ofInt t.2.1, t.2.2.1, t.2.2.2)
def RWho (w : Nat → Int32) (A : List Int32) : Prop := (∀ s, s < 8 → w s = 0 ∨ (w s ∈ A ∧ 0 < w s)) ∧ (∀ i, i ∈ A → ∃ s, s < 8 ∧ w s = i ∧ 0 < i) ∧ ∀ s t, s < 8 → t < 8 → w s = w t → ¬ w s = 0 → s = t
def RTm (ρ : mS) (y : Yd) (s : Nat) (i : Int32) : Prop := ∃ b : Nat, b ≤ (yL y).toNatClampNeg ∧ ρ.1 22 6 s = nI b ∧ yF y 5 i = nI b ∧ (yH y i).2.2 = (if 1 ≤ b then (ρ.1 25 0 (3 * s + (b + 2) % 3)).toInt else -10) ∧ (yH y i).2.1 = (if 2 ≤ b then (ρ.1 25 0 (3 * s + (b + 1) % 3)).toInt else -10) ∧ (yH y i).1 = (if 3 ≤ b then (ρ.1 25 0 (3 * s + b % 3)).toInt else -10)
def RSl (ρ : mS) (y : Yd) (s : Nat) (i : Int32) : Prop := ρ.1 22 1 s = yF y 3 i ∧ ρ.1 22 2 s = yF y 0 i ∧ ρ.1 22 3 s = yF y 1 i ∧ ρ.1 22 4 s = yF y 2 i ∧ ρ.1 22 5 s = yF y 4 i ∧ ρ.1 23 0 s = bI (yB y 0 i) ∧ ρ.1 23 1 s = bI (yB y 1 i) ∧ (∀ r, r < 4 → ρ.1 24 0 (4 * s + r) = yF y (8 + r) i) ∧ RTm ρ y s i
def RSls (ρ : mS) (y : Yd) : Prop := ∀ s, s < 8 → ¬ ρ.1 22 0 s = 0 → RSl ρ y s (ρ.1 22 0 s)
def RCd (ρ : mS) (y : Yd) : Prop := ∀ c, c < 48 → ρ.1 21 0 c = yC y 0 c + 1 ∧ ρ.1 21 1 c = yC y 1 c ∧ ρ.1 21 2 c = yC y 2 c
def RSc (ρ : mS) (y : Yd) : Prop := ρ.1 20 0 3 = yL y ∧ ρ.1 20 0 17 = nI (yN y) ∧ ρ.1 20 0 25 = yX y
def RRw (ρ : mS) (y : Yd) (ls es : List (Int32 × Int32)) : Prop := RWho (ρ.1 22 0) (yA y) ∧ RSls ρ y ∧ RCd ρ y ∧ RSc ρ y ∧ RoIs ρ (yQ y) ∧ MlIs ρ (yM y) ∧ LkIs ρ ls ∧ ls.Perm (yK y) ∧ CkIs ρ ((yT y).map ckI) ∧ OuIs ρ (yO y) ∧ EnIs ρ es ∧ (yM y).length + ls.length + yR y = 24
theorem RSl.cg {ρ τ : mS} {y z : Yd} {s : Nat} {i : Int32} (h : RSl ρ y s i) (m1 : ∀ k, 1 ≤ k → k ≤ 6 → τ.1 22 k s = ρ.1 22 k s) (m2 : ∀ k, k < 2 → τ.1 23 k s = ρ.1 23 k s) (m3 : ∀ r, r < 4 → τ.1 24 0 (4 * s + r) = ρ.1 24 0 (4 * s + r)) (m4 : ∀ j, j < 3 → τ.1 25 0 (3 * s + j) = ρ.1 25 0 (3 * s + j)) (e1 : ∀ n, yF z n i = yF y n i) (e2 : ∀ n, yB z n i = yB y n i) (e3 : yH z i = yH y i) (e4 : (yL y).toNatClampNeg ≤ (yL z).toNatClampNeg) : RSl τ z s i := by
  obtain ⟨h1, h2, h3, h4, h5, h6, h7, h8, b, hb, h9, h10, h11, h12, h13⟩ := h
  refine ⟨?_, ?_, ?_, ?_, ?_, ?_, ?_, ?_, b, by omega, ?_, ?_, ?_, ?_, ?_⟩
  · rw [m1 1 (by decide) (by decide), e1, h1]
  · rw [m1 2 (by decide) (by decide), e1, h2]
  · rw [m1 3 (by decide) (by decide), e1, h3]
  · rw [m1 4 (by decide) (by decide), e1, h4]
  · rw [m1 5 (by decide) (by decide), e1, h5]
  · rw [m2 0 (by decide), e2, h6]
  · rw [m2 1 (by decide), e2, h7]
  · intro r hr
    rw [m3 r hr, e1, h8 r hr]
  · rw [m1 6 (by decide) (by decide), h9]
  · rw [e1, h10]
  · rw [e3, h11, m4 _ (Nat.mod_lt _ (by decide))]
  · rw [e3, h12, m4 _ (Nat.mod_lt _ (by decide))]
  · rw [e3, h13, m4 _ (Nat.mod_lt _ (by decide))]
theorem fnd_some {w : Nat → Int32} {id : Int32} {n s : Nat} (h : fnd w id n = some s) : s < n ∧ w s = id ∧ 0 < id := by
  induction n with
  | zero => cases h
  | succ n ih =>
    rw [fnd] at h
    split at h
    · rename_i hc
      cases h
      exact ⟨Nat.lt_succ_self _, hc.2, hc.1⟩
    · have := ih h
      exact ⟨by omega, this.2⟩
theorem fnd_none {w : Nat → Int32} {id : Int32} {n : Nat} (h : fnd w id n = none) : ∀ s, s < n → ¬ (0 < id ∧ w s = id) := by
  induction n with
  | zero => intro s hs; omega
  | succ n ih =>
    rw [fnd] at h
    split at h
    · cases h
    · rename_i hc
      intro s hs
      by_cases hz : s = n
      · rw [hz]
        exact hc
      · exact ih h s (by omega)
theorem RWho.fd {w : Nat → Int32} {A : List Int32} (h : RWho w A) (i : Int32) : (∃ s, s < 8 ∧ fnd w i 8 = some s ∧ w s = i ∧ i ∈ A ∧ 0 < i) ∨ (fnd w i 8 = none ∧ ¬ i ∈ A) := by
  cases hf : fnd w i 8 with
  | none =>
    refine Or.inr ⟨rfl, fun hi => ?_⟩
    obtain ⟨s, hs, e, hp⟩ := h.2.1 i hi
    exact fnd_none hf s hs ⟨hp, e⟩
  | some s =>
    obtain ⟨hs, e, hp⟩ := fnd_some hf
    refine Or.inl ⟨s, hs, rfl, e, ?_, hp⟩
    rcases h.1 s hs with hz | hz
    · rw [e] at hz
      rw [hz] at hp
      exact absurd hp (by decide)
    · rw [e] at hz
      exact hz.1
theorem R_enqueue {ρ : mS} {y : Yd} {ls es : List (Int32 × Int32)} (h : RRw ρ y ls es) (hl : (yQ y).length < 8) {s : Nat} (hs : s < 8) {i : Int32} (hi : ρ.1 22 0 s = i) (hi0 : ¬ i = 0) : Meets clR yX7_enqueue (kX7_enqueue :: wT) rX7_enqueue [mR 20 0, mI (nI s)] ρ (fun r τ => r = none ∧ RRw τ (yReady y i) ls es ∧ τ.1 22 0 = ρ.1 22 0) := by
  obtain ⟨h1, h2, h3, h4, h5, h6, h7, h8, h9, h10, h11, h12⟩ := h
  refine (r_enqueue h5 hl hs).mono ?_
  rintro r τ ⟨hr, f, g1, g2, g3⟩
  have hw : τ.1 22 0 = ρ.1 22 0 := by
    funext p
    exact f.1 22 0 p (by simp only [qEq, qRo]; omega)
  refine ⟨hr, ⟨by rw [hw]; exact h1, ?_, ?_, ?_, ?_, h6.fr f ?_, h7.fr f ?_, h8, h9.fr f ?_, h10.fr f ?_, h11.fr f ?_, h12⟩, hw⟩
  · intro t ht ht0
    rw [hw] at ht0 ⊢
    have ho := h2 t ht ht0
    by_cases hts : t = s
    · subst hts
      rw [hi] at ho ⊢
      obtain ⟨a1, a2, a3, a4, a5, a6, a7, a8, b, hb, a9, a10, a11, a12, a13⟩ := ho
      have m : ∀ k p, ¬ k = 5 → ¬ k = 7 → τ.1 22 k p = ρ.1 22 k p := fun k p q1 q2 => f.1 22 k p (by simp only [qEq, qRo]; omega)
      have m4 : ∀ k p, τ.1 24 k p = ρ.1 24 k p := fun k p => f.1 24 k p (by simp only [qEq, qRo]; omega)
      have m5 : ∀ k p, τ.1 25 k p = ρ.1 25 k p := fun k p => f.1 25 k p (by simp only [qEq, qRo]; omega)
      have m3 : ∀ p, τ.1 23 0 p = ρ.1 23 0 p := fun p => f.1 23 0 p (by simp only [qEq, qRo]; omega)
      refine ⟨?_, ?_, ?_, ?_, ?_, ?_, ?_, ?_, b, hb, ?_, ?_, ?_, ?_, ?_⟩
      · rw [m 1 _ (by decide) (by decide), a1]; simp [yReady, setF, setB, yFvQ, yFvF, yFvB, up2]
      · rw [m 2 _ (by decide) (by decide), a2]; simp [yReady, setF, setB, yFvQ, yFvF, yFvB, up2]
      · rw [m 3 _ (by decide) (by decide), a3]; simp [yReady, setF, setB, yFvQ, yFvF, yFvB, up2]
      · rw [m 4 _ (by decide) (by decide), a4]; simp [yReady, setF, setB, yFvQ, yFvF, yFvB, up2]
      · rw [g3]; simp [yReady, setF, setB, yFvQ, yFvF, yFvB, up2]
      · rw [m3, a6]; simp [yReady, setF, setB, yBvQ, yBvF, yBvB, up2]
      · rw [g2]; simp [yReady, setF, setB, yBvQ, yBvF, yBvB, up2, bI]
      · intro r hr
        rw [m4, a8 r hr]
        have : ¬ 8 + r = 4 := by omega
        simp [yReady, setF, setB, yFvQ, yFvF, yFvB, up2, this]
      · rw [m 6 _ (by decide) (by decide), a9]
      · rw [← a10]; simp [yReady, setF, setB, yFvQ, yFvF, yFvB, up2]
      · rw [m5]; exact a11
      · rw [m5]; exact a12
      · rw [m5]; exact a13
    · have hne : ¬ ρ.1 22 0 t = i := fun z => hts (h1.2.2 t s ht hs (z.trans hi.symm) ht0)
      refine ho.cg ?_ ?_ ?_ ?_ ?_ ?_ rfl (Nat.le_refl _)
      · intro k q1 q2
        exact f.1 22 k t (by simp only [qEq, qRo]; omega)
      · intro k q1
        exact f.1 23 k t (by simp only [qEq, qRo]; omega)
      · intro r _
        exact f.1 24 0 _ (by simp only [qEq, qRo]; omega)
      · intro r _
        exact f.1 25 0 _ (by simp only [qEq, qRo]; omega)
      · intro n
        simp [yReady, setF, setB, yFvQ, yFvF, yFvB, up2, hne]
      · intro n
        simp [yReady, setF, setB, yBvQ, yBvF, yBvB, up2, hne]
  · intro c hc
    rw [f.1 21 0 c (by simp only [qEq, qRo]; omega), f.1 21 1 c (by simp only [qEq, qRo]; omega), f.1 21 2 c (by simp only [qEq, qRo]; omega)]
    exact h3 c hc
  · refine ⟨?_, ?_, ?_⟩
    · rw [f.1 20 0 3 (by simp only [qEq, qRo]; omega)]; exact h4.1
    · rw [f.1 20 0 17 (by simp only [qEq, qRo]; omega)]; exact h4.2.1
    · rw [f.1 20 0 25 (by simp only [qEq, qRo]; omega)]; exact h4.2.2
  · rw [hi] at g1
    exact g1
  · intro k j p z
    simp only [qEq, qRo, qMl] at z ⊢
    omega
  · intro k j p z
    simp only [qEq, qRo, qLk] at z ⊢
    omega
  · intro k j p z
    simp only [qEq, qRo, qCk] at z ⊢
    omega
  · intro k j p z
    simp only [qEq, qRo, qOu] at z ⊢
    omega
  · intro k j p z
    simp only [qEq, qRo, qEn] at z ⊢
    omega
