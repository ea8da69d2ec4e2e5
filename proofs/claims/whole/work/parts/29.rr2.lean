/-! The reference: come, post, exitReaches -/
abbrev qSl : Nat → Nat → Nat → Prop := fun k i p => (k = 22 ∧ i ≤ 6) ∨ k = 23 ∨ k = 24 ∨ (k = 25 ∧ i = 0) ∨ k = 21 ∨ (k = 20 ∧ (p = 3 ∨ p = 17 ∨ p = 25))
theorem RSls.fr {P : Nat → Nat → Nat → Prop} {ρ τ : mS} {y z : Yd} (h : RSls ρ y) (f : Fr P ρ τ) (hd : ∀ k i p, P k i p → ¬ qSl k i p) (e1 : yF z = yF y) (e2 : yB z = yB y) (e3 : yH z = yH y) (e4 : yL z = yL y) : RSls τ z := by
  intro t ht ht0
  have hw : τ.1 22 0 t = ρ.1 22 0 t := f.1 22 0 t (fun q => hd _ _ _ q (Or.inl ⟨rfl, by omega⟩))
  rw [hw] at ht0 ⊢
  refine (h t ht ht0).cg ?_ ?_ ?_ ?_ (fun n => by rw [e1]) (fun n => by rw [e2]) (by rw [e3]) (by rw [e4]; exact Nat.le_refl _)
  · intro k q1 q2
    exact f.1 22 k t (fun q => hd _ _ _ q (Or.inl ⟨rfl, by omega⟩))
  · intro k q1
    exact f.1 23 k t (fun q => hd _ _ _ q (Or.inr (Or.inl rfl)))
  · intro r _
    exact f.1 24 0 _ (fun q => hd _ _ _ q (Or.inr (Or.inr (Or.inl rfl))))
  · intro r _
    exact f.1 25 0 _ (fun q => hd _ _ _ q (Or.inr (Or.inr (Or.inr (Or.inl ⟨rfl, rfl⟩)))))
theorem RCd.fr {P : Nat → Nat → Nat → Prop} {ρ τ : mS} {y z : Yd} (h : RCd ρ y) (f : Fr P ρ τ) (hd : ∀ k i p, P k i p → ¬ k = 21) (e1 : yC z = yC y) : RCd τ z := by
  intro c hc
  rw [e1, f.1 21 0 c (fun q => hd _ _ _ q rfl), f.1 21 1 c (fun q => hd _ _ _ q rfl), f.1 21 2 c (fun q => hd _ _ _ q rfl)]
  exact h c hc
theorem RSc.fr {P : Nat → Nat → Nat → Prop} {ρ τ : mS} {y z : Yd} (h : RSc ρ y) (f : Fr P ρ τ) (hd : ∀ k i p, P k i p → ¬ qSl k i p) (e1 : yL z = yL y) (e2 : yN z = yN y) (e3 : yX z = yX y) : RSc τ z := by
  refine ⟨?_, ?_, ?_⟩
  · rw [e1, f.1 20 0 3 (fun q => hd _ _ _ q (Or.inr (Or.inr (Or.inr (Or.inr (Or.inr ⟨rfl, by decide⟩))))))]; exact h.1
  · rw [e2, f.1 20 0 17 (fun q => hd _ _ _ q (Or.inr (Or.inr (Or.inr (Or.inr (Or.inr ⟨rfl, by decide⟩))))))]; exact h.2.1
  · rw [e3, f.1 20 0 25 (fun q => hd _ _ _ q (Or.inr (Or.inr (Or.inr (Or.inr (Or.inr ⟨rfl, by decide⟩))))))]; exact h.2.2
theorem fr_who {P : Nat → Nat → Nat → Prop} {ρ τ : mS} (f : Fr P ρ τ) (hd : ∀ k i p, P k i p → ¬ qSl k i p) : τ.1 22 0 = ρ.1 22 0 := by
  funext p
  exact f.1 22 0 p (fun q => hd _ _ _ q (Or.inl ⟨rfl, by omega⟩))
theorem qCk_sl : ∀ k i p, qCk k i p → ¬ qSl k i p := by
  intro k i p z
  simp only [qCk, qSl] at z ⊢
  omega
theorem qMl_sl : ∀ k i p, qMl k i p → ¬ qSl k i p := by
  intro k i p z
  simp only [qMl, qSl] at z ⊢
  omega
theorem qEn_sl : ∀ k i p, qEn k i p → ¬ qSl k i p := by
  intro k i p z
  simp only [qEn, qSl] at z ⊢
  omega
theorem qLk_sl : ∀ k i p, qLk k i p → ¬ qSl k i p := by
  intro k i p z
  simp only [qLk, qSl] at z ⊢
  omega
theorem qRo_sl : ∀ k i p, qRo k i p → ¬ qSl k i p := by
  intro k i p z
  simp only [qRo, qSl] at z ⊢
  omega
theorem qOu_sl : ∀ k i p, qOu k i p → ¬ qSl k i p := by
  intro k i p z
  simp only [qOu, qSl] at z ⊢
  omega
theorem sl21 {P : Nat → Nat → Nat → Prop} (h : ∀ k i p, P k i p → ¬ qSl k i p) : ∀ k i p, P k i p → ¬ k = 21 := fun k i p z e => h k i p z (by simp only [qSl]; omega)
theorem RRw.ck {ρ τ : mS} {y : Yd} {ls es : List (Int32 × Int32)} (h : RRw ρ y ls es) (f : Fr qCk ρ τ) {ts : List (Int32 × Int × Int32 × Bool)} (hc : CkIs τ (ts.map ckI)) : RRw τ (vT y ts) ls es ∧ τ.1 22 0 = ρ.1 22 0 := by
  obtain ⟨h1, h2, h3, h4, h5, h6, h7, h8, h9, h10, h11, h12⟩ := h
  have hw := fr_who f qCk_sl
  refine ⟨⟨by rw [hw]; exact h1, h2.fr f qCk_sl rfl rfl rfl rfl, h3.fr f (sl21 qCk_sl) rfl, h4.fr f qCk_sl rfl rfl rfl, h5.fr f ?_, h6.fr f ?_, h7.fr f ?_, h8, hc, h10.fr f ?_, h11.fr f ?_, h12⟩, hw⟩
  · intro k j p z
    simp only [qCk, qRo] at z ⊢
    omega
  · intro k j p z
    simp only [qCk, qMl] at z ⊢
    omega
  · intro k j p z
    simp only [qCk, qLk] at z ⊢
    omega
  · intro k j p z
    simp only [qCk, qOu] at z ⊢
    omega
  · intro k j p z
    simp only [qCk, qEn] at z ⊢
    omega
theorem RRw.ml {ρ τ : mS} {y : Yd} {ls es : List (Int32 × Int32)} (h : RRw ρ y ls es) (f : Fr qMl ρ τ) {ms : List (Int32 × Int32 × Int32)} {n : Nat} (hc : MlIs τ ms) (hn : ms.length + ls.length + n = 24) : RRw τ (vM (vR y n) ms) ls es ∧ τ.1 22 0 = ρ.1 22 0 := by
  obtain ⟨h1, h2, h3, h4, h5, h6, h7, h8, h9, h10, h11, h12⟩ := h
  have hw := fr_who f qMl_sl
  refine ⟨⟨by rw [hw]; exact h1, h2.fr f qMl_sl rfl rfl rfl rfl, h3.fr f (sl21 qMl_sl) rfl, h4.fr f qMl_sl rfl rfl rfl, h5.fr f ?_, hc, h7.fr f ?_, h8, h9.fr f ?_, h10.fr f ?_, h11.fr f ?_, hn⟩, hw⟩
  · intro k j p z
    simp only [qMl, qRo] at z ⊢
    omega
  · intro k j p z
    simp only [qMl, qLk] at z ⊢
    omega
  · intro k j p z
    simp only [qMl, qCk] at z ⊢
    omega
  · intro k j p z
    simp only [qMl, qOu] at z ⊢
    omega
  · intro k j p z
    simp only [qMl, qEn] at z ⊢
    omega
theorem RRw.en {ρ τ : mS} {y : Yd} {ls es es' : List (Int32 × Int32)} (h : RRw ρ y ls es) (f : Fr qEn ρ τ) (hc : EnIs τ es') : RRw τ y ls es' ∧ τ.1 22 0 = ρ.1 22 0 := by
  obtain ⟨h1, h2, h3, h4, h5, h6, h7, h8, h9, h10, h11, h12⟩ := h
  have hw := fr_who f qEn_sl
  refine ⟨⟨by rw [hw]; exact h1, h2.fr f qEn_sl rfl rfl rfl rfl, h3.fr f (sl21 qEn_sl) rfl, h4.fr f qEn_sl rfl rfl rfl, h5.fr f ?_, h6.fr f ?_, h7.fr f ?_, h8, h9.fr f ?_, h10.fr f ?_, hc, h12⟩, hw⟩
  · intro k j p z
    simp only [qEn, qRo] at z ⊢
    omega
  · intro k j p z
    simp only [qEn, qMl] at z ⊢
    omega
  · intro k j p z
    simp only [qEn, qLk] at z ⊢
    omega
  · intro k j p z
    simp only [qEn, qCk] at z ⊢
    omega
  · intro k j p z
    simp only [qEn, qOu] at z ⊢
    omega
theorem R_ends {ρ : mS} {y : Yd} {ls es : List (Int32 × Int32)} (h : RRw ρ y ls es) (hl : es.length < 200) (id w : Int32) : Meets clR yX7_ends (kX7_ends :: wT) rX7_ends [mR 20 0, mI id, mI w] ρ (fun r τ => r = none ∧ RRw τ y ls (es ++ [(id, w)]) ∧ τ.1 22 0 = ρ.1 22 0) := by
  refine (r_ends h.2.2.2.2.2.2.2.2.2.2.1 hl id w).mono ?_
  rintro r τ ⟨hr, f, g⟩
  exact ⟨hr, h.en f g⟩
theorem R_stopF {ρ : mS} {y : Yd} {ls es : List (Int32 × Int32)} (h : RRw ρ y ls es) (i : Int32) (all : Bool) : Meets clR yX7_stopClocks (kX7_stopClocks :: wT) rX7_stopClocks [mR 20 0, mI i, mI (bI all)] ρ (fun r τ => r = none ∧ RRw τ (vT y ((yT y).filter (fun t => !(t.1 == i && (all || t.2.2.2))))) ls es ∧ τ.1 22 0 = ρ.1 22 0) := by
  refine (r_stopClocks h.2.2.2.2.2.2.2.2.1 i all).mono ?_
  rintro r τ ⟨hr, f, g⟩
  rw [List.filter_map] at g
  exact ⟨hr, h.ck f g⟩
theorem R_freeCells {ρ : mS} {y : Yd} {ls es : List (Int32 × Int32)} (h : RRw ρ y ls es) : Meets clR yX7_freeCells (kX7_freeCells :: wT) rX7_freeCells [mR 20 0] ρ (fun r τ => τ = ρ ∧ r = some (mI (nI (yR y)))) := by
  obtain ⟨h1, h2, h3, h4, h5, h6, h7, h8, h9, h10, h11, h12⟩ := h
  refine (r_freeCells h6 h7 (by omega)).mono ?_
  rintro r τ ⟨e, g⟩
  refine ⟨e, ?_⟩
  rw [g]
  have : 24 - (yM y).length - ls.length = yR y := by omega
  rw [this]
theorem R_come {ρ : mS} {y : Yd} {ls es : List (Int32 × Int32)} (h : RRw ρ y ls es) {s : Nat} (hs : s < 8) {i : Int32} (hi : ρ.1 22 0 s = i) (hi0 : ¬ i = 0) (hR : 0 < yR y) (hq : yB y 1 i = true → (yQ y).length < 8) (from' v : Int32) : Meets clR yX7_come (kX7_come :: wT) rX7_come [mR 20 0, mI (nI s), mI from', mI v] ρ (fun r τ => r = none ∧ RRw τ (yDel y i from' v) ls es ∧ τ.1 22 0 = ρ.1 22 0) := by
  have hh := h
  obtain ⟨h1, h2, h3, h4, h5, h6, h7, h8, h9, h10, h11, h12⟩ := h
  refine Meets.of SX7_come rfl (by decide) rfl (Nat.le_of_ble_eq_true rfl) ?_
  intro J hJ
  have hl : (yM y).length < 24 := by omega
  refine stp_j hJ 9 ⟨i20, i20, _, h6.1, i20, i22 (by decide), s, ix_nI hs (by decide), _, hi, i25 (by decide), _, ix_nI hl (by decide), ?_⟩
  refine stp_j hJ 12 ⟨i20, i20, _, h6.1, i25 (by decide), _, ix_nI hl (by decide), i20, i20, _, h6.1, i25 (by decide), _, ix_nI hl (by decide), ?_⟩
  refine stp_j hJ 6 ⟨i20, _, h6.1, _, nI_1 (yM y).length, i20, ?_⟩
  have f : Fr qMl ρ (sI (sI (sI (sI ρ 25 1 (yM y).length i) 25 2 (yM y).length from') 25 3 (yM y).length v) 20 0 18 (nI ((yM y).length + 1))) := (((Fr.oI (by simp [qMl])).andI (by simp [qMl])).andI (by simp [qMl])).andI (by simp [qMl])
  have g : MlIs (sI (sI (sI (sI ρ 25 1 (yM y).length i) 25 2 (yM y).length from') 25 3 (yM y).length v) 20 0 18 (nI ((yM y).length + 1))) (yM y ++ [(i, from', v)]) := by
    refine ⟨by simp [u3], by simp; omega, fun p m hp => ?_⟩
    by_cases hpl : p < (yM y).length
    · rw [List.getElem?_append_left hpl] at hp
      have hne : ¬ p = (yM y).length := by omega
      have := h6.2.2 p m hp
      simp [u3, hne, this]
    · rw [List.getElem?_append_right (by omega)] at hp
      have hz : p - (yM y).length < 1 := (List.getElem?_eq_some_iff.mp hp).1
      have hpe : p = (yM y).length := by omega
      subst hpe
      simp at hp
      subst hp
      simp [u3]
  revert f g
  generalize sI (sI (sI (sI ρ 25 1 (yM y).length i) 25 2 (yM y).length from') 25 3 (yM y).length v) 20 0 18 (nI ((yM y).length + 1)) = τ
  intro f g
  obtain ⟨k1, k2⟩ := hh.ml f (n := yR y - 1) g (by simp; omega)
  have hi2 : τ.1 22 0 s = i := by rw [k2]; exact hi
  have hb := (k1.2.1 s hs (by rw [hi2]; exact hi0)).2.2.2.2.2.2.1
  rw [hi2] at hb
  have hb : τ.1 23 1 s = bI (yB y 1 i) := hb
  refine stp_j hJ 5 ⟨i20, i23 (by decide), s, ix_nI hs (by decide), _, hb, fun h0 => ?_, fun h0 => ?_⟩
  · refine stp_j hJ 1 ⟨rfl, ?_, k2⟩
    have hz : ¬ yB y 1 i = true := by
      intro hz
      rw [hz] at h0
      exact absurd h0 (by decide)
    rw [yDel, if_neg (by omega), if_neg hz]
    exact k1
  · have hz : yB y 1 i = true := by
      cases hz : yB y 1 i with
      | true => rfl
      | false => rw [hz] at h0; exact absurd rfl h0
    refine stp_j hJ 7 ⟨i20, i22 (by decide), s, ix_nI hs (by decide), _, hi2, trivial, ⟨i20, trivial⟩, _, R_stopF k1 i false, ?_⟩
    rintro o υ ⟨w, l1, l2⟩
    subst w
    have hi3 : υ.1 22 0 s = i := by rw [l2]; exact hi2
    refine stp_j hJ 3 ⟨trivial, ⟨i20, trivial⟩, _, R_enqueue l1 (hq hz) hs hi3 hi0, ?_⟩
    rintro o φ ⟨w, n1, n2⟩
    subst w
    refine stp_j hJ 1 ⟨rfl, ?_, n2.trans (l2.trans k2)⟩
    rw [yDel, if_neg (by omega), if_pos hz]
    exact n1
