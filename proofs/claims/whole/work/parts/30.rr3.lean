/-! The reference: post, exitReaches, leave, nextAfter -/
theorem RRw.vE {ρ : mS} {y : Yd} {ls es : List (Int32 × Int32)} (h : RRw ρ y ls es) (e : List (Int32 × Int32)) : RRw ρ (vE y e) ls es := h
theorem R_post {ρ : mS} {y : Yd} {ls es : List (Int32 × Int32)} (h : RRw ρ y ls es) (hq : ∀ i, i ∈ yA y → yB y 1 i = true → (yQ y).length < 8) (to from' v : Int32) : Meets clR yX7_post (kX7_post :: wT) rX7_post [mR 20 0, mI to, mI from', mI v] ρ (fun r τ => r = none ∧ RRw τ (if to ∈ yA y then yDel y to from' v else y) ls es ∧ τ.1 22 0 = ρ.1 22 0) := by
  refine Meets.of SX7_post rfl (by decide) rfl (Nat.le_of_ble_eq_true rfl) ?_
  intro J hJ
  refine stp_j hJ 3 ⟨trivial, ⟨i20, trivial⟩, _, r_find ρ to, ?_⟩
  rintro o τ ⟨w, rfl⟩
  have w := w.symm
  subst w
  rcases h.1.fd to with ⟨s, hs, e, hi, hA, hp⟩ | ⟨e, hA⟩
  · rw [e]
    have hi0 : ¬ to = 0 := by
      intro z
      rw [z] at hp
      exact absurd hp (by decide)
    refine stp_j hJ 3 ⟨fun _ => ?_, fun h2 => absurd (nI_pos' (by omega)) h2⟩
    refine stp_j hJ 2 ⟨trivial, ⟨i20, trivial⟩, _, R_freeCells h, ?_⟩
    rintro o τ ⟨w, rfl⟩
    have w := w.symm
    subst w
    have h24 : yR y ≤ 24 := by
      have := h.2.2.2.2.2.2.2.2.2.2.2
      omega
    refine stp_j hJ 1 ⟨fun h2 => ?_, fun h2 => ?_⟩
    · have hR : 0 < yR y := Nat.pos_of_ne_zero (fun z => h2 (by rw [z]; exact nI_0))
      refine stp_j hJ 5 ⟨trivial, ⟨i20, trivial⟩, _, R_come h hs hi hi0 hR (hq to hA) from' v, ?_⟩
      rintro o τ ⟨w, k1, k2⟩
      subst w
      exact stp_j hJ 1 ⟨rfl, (by rw [if_pos hA]; exact k1), k2⟩
    · have hR : yR y = 0 := by
        have := Decidable.not_not.mp h2
        exact Decidable.byContradiction (fun z => nI_ne0 (Nat.pos_of_ne_zero z) (by omega) this)
      have h4 := h.2.2.2.1
      refine stp_j hJ 8 ⟨i20, _, h4.2.2, _, rfl, i20, rfl, ?_⟩
      rw [if_pos hA, yDel, if_pos hR]
      have f : Fr (fun k _ p => k = 20 ∧ p = 25) ρ (sI ρ 20 0 25 (yX y + 1)) := Fr.oI ⟨rfl, rfl⟩
      have hw : (sI ρ 20 0 25 (yX y + 1)).1 22 0 = ρ.1 22 0 := by
        funext p
        exact f.1 22 0 p (by omega)
      refine ⟨?_, hw⟩
      obtain ⟨h1, h2, h3, h4, h5, h6, h7, h8, h9, h10, h11, h12⟩ := h
      refine ⟨by rw [hw]; exact h1, ?_, h3.fr f (fun k i p z => by omega) rfl, ⟨?_, ?_, ?_⟩, h5.fr f ?_, h6.fr f ?_, h7.fr f ?_, h8, h9.fr f ?_, h10.fr f ?_, h11.fr f ?_, h12⟩
      · intro t ht ht0
        rw [hw] at ht0 ⊢
        refine (h2 t ht ht0).cg ?_ ?_ ?_ ?_ (fun n => rfl) (fun n => rfl) rfl (Nat.le_refl _)
        · intro k q1 q2
          exact f.1 22 k t (by omega)
        · intro k q1
          exact f.1 23 k t (by omega)
        · intro r _
          exact f.1 24 0 _ (by omega)
        · intro r _
          exact f.1 25 0 _ (by omega)
      · rw [f.1 20 0 3 (by omega)]; exact h4.1
      · rw [f.1 20 0 17 (by omega)]; exact h4.2.1
      · simp [u3, yXvX]
      · intro k j p z
        simp only [qRo] at z ⊢
        omega
      · intro k j p z
        simp only [qMl] at z ⊢
        omega
      · intro k j p z
        simp only [qLk] at z ⊢
        omega
      · intro k j p z
        simp only [qCk] at z ⊢
        omega
      · intro k j p z
        simp only [qOu] at z ⊢
        omega
      · intro k j p z
        simp only [qEn] at z ⊢
        omega
  · rw [e]
    refine stp_j hJ 3 ⟨fun h2 => absurd h2 (by decide), fun _ => ?_⟩
    exact stp_j hJ 1 ⟨rfl, (by rw [if_neg hA]; exact h), rfl⟩
def exE (es : List (Int32 × Int32)) (y : Yd) (i r : Int32) : List (Int32 × Int32) := if yB y 0 i = true ∨ r = 0 then es else es ++ [(i, r)]
theorem R_exit {ρ : mS} {y : Yd} {ls es : List (Int32 × Int32)} (h : RRw ρ y ls es) (hl : es.length < 200) (hq : ∀ i, i ∈ yA y → yB y 1 i = true → (yQ y).length < 8) {s : Nat} (hs : s < 8) {i : Int32} (hi : ρ.1 22 0 s = i) (hi0 : ¬ i = 0) (from' r : Int32) : Meets clR yX7_exitReaches (kX7_exitReaches :: wT) rX7_exitReaches [mR 20 0, mI (nI s), mI from', mI r] ρ (fun o τ => o = none ∧ RRw τ (yExit y i from' r) ls (exE es y i r) ∧ τ.1 22 0 = ρ.1 22 0) := by
  refine Meets.of SX7_exitReaches rfl (by decide) rfl (Nat.le_of_ble_eq_true rfl) ?_
  intro J hJ
  have hb := (h.2.1 s hs (by rw [hi]; exact hi0)).2.2.2.2.2.1
  rw [hi] at hb
  have hA : i ∈ yA y := by
    rcases h.1.1 s hs with z | z
    · exact absurd (hi.symm.trans z) hi0
    · rw [hi] at z
      exact z.1
  refine stp_j hJ 5 ⟨i20, i23 (by decide), s, ix_nI hs (by decide), _, hb, fun h0 => ?_, fun h0 => ?_⟩
  · have hz : ¬ yB y 0 i = true := by
      intro hz
      rw [hz] at h0
      exact absurd h0 (by decide)
    have ey : yExit y i from' r = (if r = 0 then y else yEnd y i r) := by rw [yExit, if_neg hz]
    refine stp_j hJ 2 ⟨fun h3 => ?_, fun h3 => ?_⟩
    · refine stp_j hJ 1 ⟨rfl, ?_, rfl⟩
      rw [ey, if_pos h3, exE, if_pos (Or.inr h3)]
      exact h
    · refine stp_j hJ 7 ⟨i20, i22 (by decide), s, ix_nI hs (by decide), _, hi, trivial, ⟨i20, trivial⟩, _, R_ends h hl i r, ?_⟩
      rintro o τ ⟨w, k1, k2⟩
      subst w
      refine stp_j hJ 1 ⟨rfl, ?_, k2⟩
      rw [ey, if_neg h3, exE, if_neg (fun z => z.elim hz h3), yEnd]
      split
      · exact k1
      · exact k1.vE _
  · have hz : yB y 0 i = true := by
      cases hz : yB y 0 i with
      | true => rfl
      | false => rw [hz] at h0; exact absurd rfl h0
    have ey : yExit y i from' r = yDel y i from' r := by rw [yExit, if_pos hz]
    refine stp_j hJ 8 ⟨i20, i22 (by decide), s, ix_nI hs (by decide), _, hi, trivial, ⟨i20, trivial⟩, _, R_post h hq i from' r, ?_⟩
    rintro o τ ⟨w, k1, k2⟩
    subst w
    rw [if_pos hA] at k1
    refine stp_j hJ 2 ⟨rfl, ?_, k2⟩
    rw [ey, exE, if_pos (Or.inl hz)]
    exact k1
theorem RRw.ro {ρ τ : mS} {y : Yd} {ls es : List (Int32 × Int32)} (h : RRw ρ y ls es) (f : Fr qRo ρ τ) {xs : List Int32} (hc : RoIs τ xs) : RRw τ (vQ y xs) ls es ∧ τ.1 22 0 = ρ.1 22 0 := by
  obtain ⟨h1, h2, h3, h4, h5, h6, h7, h8, h9, h10, h11, h12⟩ := h
  have hw := fr_who f qRo_sl
  refine ⟨⟨by rw [hw]; exact h1, h2.fr f qRo_sl rfl rfl rfl rfl, h3.fr f (sl21 qRo_sl) rfl, h4.fr f qRo_sl rfl rfl rfl, hc, h6.fr f ?_, h7.fr f ?_, h8, h9.fr f ?_, h10.fr f ?_, h11.fr f ?_, h12⟩, hw⟩
  · intro k j p z
    simp only [qRo, qMl] at z ⊢
    omega
  · intro k j p z
    simp only [qRo, qLk] at z ⊢
    omega
  · intro k j p z
    simp only [qRo, qCk] at z ⊢
    omega
  · intro k j p z
    simp only [qRo, qOu] at z ⊢
    omega
  · intro k j p z
    simp only [qRo, qEn] at z ⊢
    omega
theorem R_leave {ρ : mS} {y : Yd} {ls es : List (Int32 × Int32)} (h : RRw ρ y ls es) (hn : (yQ y).Nodup) (i : Int32) : Meets clR yX7_leave (kX7_leave :: wT) rX7_leave [mR 20 0, mI i] ρ (fun r τ => r = none ∧ RRw τ (vQ y ((yQ y).erase i)) ls es ∧ τ.1 22 0 = ρ.1 22 0) := by
  refine (r_leave h.2.2.2.2.1 i).mono ?_
  rintro r τ ⟨hr, f, g⟩
  rw [hn.erase_eq_filter]
  exact ⟨hr, h.ro f g⟩
theorem RRw.ou {ρ τ : mS} {y : Yd} {ls es : List (Int32 × Int32)} (h : RRw ρ y ls es) (f : Fr qOu ρ τ) {xs : List (Int32 × Int32)} (hc : OuIs τ xs) : RRw τ (vO y xs) ls es ∧ τ.1 22 0 = ρ.1 22 0 := by
  obtain ⟨h1, h2, h3, h4, h5, h6, h7, h8, h9, h10, h11, h12⟩ := h
  have hw := fr_who f qOu_sl
  refine ⟨⟨by rw [hw]; exact h1, h2.fr f qOu_sl rfl rfl rfl rfl, h3.fr f (sl21 qOu_sl) rfl, h4.fr f qOu_sl rfl rfl rfl, h5.fr f ?_, h6.fr f ?_, h7.fr f ?_, h8, h9.fr f ?_, hc, h11.fr f ?_, h12⟩, hw⟩
  · intro k j p z
    simp only [qOu, qRo] at z ⊢
    omega
  · intro k j p z
    simp only [qOu, qMl] at z ⊢
    omega
  · intro k j p z
    simp only [qOu, qLk] at z ⊢
    omega
  · intro k j p z
    simp only [qOu, qCk] at z ⊢
    omega
  · intro k j p z
    simp only [qOu, qEn] at z ⊢
    omega
theorem R_put {ρ : mS} {y : Yd} {ls es : List (Int32 × Int32)} (h : RRw ρ y ls es) {s : Nat} (hs : s < 8) {i : Int32} (hi : ρ.1 22 0 s = i) (v : Int32) : Meets clR yX7_put (kX7_put :: wT) rX7_put [mR 20 0, mI (nI s), mI v] ρ (fun r τ => r = none ∧ RRw τ (yPut y v i) ls es ∧ τ.1 22 0 = ρ.1 22 0) := by
  refine (r_put h.2.2.2.2.2.2.2.2.2.1 hs v).mono ?_
  rintro r τ ⟨hr, f, g⟩
  rw [hi] at g
  have := h.ou f g
  refine ⟨hr, ?_⟩
  rw [yPut]
  split
  · rename_i hz
    rw [if_pos hz] at this
    exact this
  · rename_i hz
    rw [if_neg hz] at this
    exact this
theorem RRw.lk {ρ τ : mS} {y : Yd} {ls ls' es : List (Int32 × Int32)} (h : RRw ρ y ls es) (f : Fr qLk ρ τ) {ks : List (Int32 × Int32)} {n : Nat} (hc : LkIs τ ls') (hp : ls'.Perm ks) (hn : (yM y).length + ls'.length + n = 24) : RRw τ (vK (vR y n) ks) ls' es ∧ τ.1 22 0 = ρ.1 22 0 := by
  obtain ⟨h1, h2, h3, h4, h5, h6, h7, h8, h9, h10, h11, h12⟩ := h
  have hw := fr_who f qLk_sl
  refine ⟨⟨by rw [hw]; exact h1, h2.fr f qLk_sl rfl rfl rfl rfl, h3.fr f (sl21 qLk_sl) rfl, h4.fr f qLk_sl rfl rfl rfl, h5.fr f ?_, h6.fr f ?_, hc, hp, h9.fr f ?_, h10.fr f ?_, h11.fr f ?_, hn⟩, hw⟩
  · intro k j p z
    simp only [qLk, qRo] at z ⊢
    omega
  · intro k j p z
    simp only [qLk, qMl] at z ⊢
    omega
  · intro k j p z
    simp only [qLk, qCk] at z ⊢
    omega
  · intro k j p z
    simp only [qLk, qOu] at z ⊢
    omega
  · intro k j p z
    simp only [qLk, qEn] at z ⊢
    omega
