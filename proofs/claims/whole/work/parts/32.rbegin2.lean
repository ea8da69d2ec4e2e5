/-! The reference: begin, the method -/
def bgA (o : Option Int32) : Int32 := match o with
  | none => 0
  | some k => k
theorem nI_4 (s : Nat) : (4 : Int32) * nI s = nI (4 * s) := (Int32.ofNat_mul 4 s).symm
theorem R_begin {ρ : mS} {y : Yd} {ls es : List (Int32 × Int32)} (h : RRw ρ y ls es) {N : Nat} (hN : yL y = nI N) (hN2 : N + 1 < 2 ^ 31) (hA : ∀ i, i ∈ yA y → i ≤ yL y) (hn : (yA y).Nodup) (hq : (yA y).length < 8 → (yQ y).length < 8) (et ar ov : Int32) : Meets clR yX7_begin (kX7_begin :: wT) rX7_begin [mR 20 0, mI et, mI ar, mI ov] ρ (fun r τ => r = some (mI (bgA (yBegin y et ar ov).2)) ∧ RRw τ (yBegin y et ar ov).1 ls es ∧ ∀ t, t < 8 → ¬ ρ.1 22 0 t = 0 → τ.1 22 0 t = ρ.1 22 0 t) := by
  refine Meets.of SX7_begin rfl (by decide) rfl (Nat.le_of_ble_eq_true rfl) ?_
  intro J hJ
  have h1 := h.1
  have h4 := h.2.2.2.1
  have h5 := h.2.2.2.2.1
  have free : ∀ s, s < 8 → ρ.1 22 0 s = 0 → J ρ 35 [(0, mR 20 0), (1, mI et), (2, mI ar), (3, mI ov), (4, mI (nI s))] [] := by
    intro s hs hz
    have hlen := h1.room hn hs hz
    have eb : yBegin y et ar ov = (yNew y et ar ov, some (yL y + 1)) := by rw [yBegin, if_pos hlen]
    have fin : ∀ (τ : mS), Fr (qBg s) ρ τ → τ.1 20 0 3 = yL y + 1 → τ.1 22 0 s = yL y + 1 → (∀ r, r < 4 → τ.1 24 0 (4 * s + r) = if r = 0 then ar else 0) → RoIs τ (yQ y) → J τ 93 [(0, mR 20 0), (1, mI et), (2, mI ar), (3, mI ov), (4, mI (nI s))] [] := by
      intro τ f k0 kw k9 kq
      refine stp_j hJ 15 ⟨i20, i22 (by decide), s, ix_nI hs (by decide), i20, i22 (by decide), s, ix_nI hs (by decide), i20, i22 (by decide), s, ix_nI hs (by decide), ?_⟩
      refine stp_j hJ 15 ⟨i20, i23 (by decide), s, ix_nI hs (by decide), Or.inl rfl, i20, i22 (by decide), s, ix_nI hs (by decide), i20, i22 (by decide), s, ix_nI hs (by decide), ?_⟩
      have f2 : Fr (qBg s) ρ (sI (sI (sI (sI (sI (sI τ 22 1 s et) 22 2 s et) 22 3 s ar) 23 0 s 0) 22 4 s ov) 22 6 s 0) := (((((f.andI (by simp [qBg])).andI (by simp [qBg])).andI (by simp [qBg])).andI (by simp [qBg])).andI (by simp [qBg])).andI (by simp [qBg])
      have v : (sI (sI (sI (sI (sI (sI τ 22 1 s et) 22 2 s et) 22 3 s ar) 23 0 s 0) 22 4 s ov) 22 6 s 0).1 20 0 3 = yL y + 1 ∧ (sI (sI (sI (sI (sI (sI τ 22 1 s et) 22 2 s et) 22 3 s ar) 23 0 s 0) 22 4 s ov) 22 6 s 0).1 22 0 s = yL y + 1 ∧ (sI (sI (sI (sI (sI (sI τ 22 1 s et) 22 2 s et) 22 3 s ar) 23 0 s 0) 22 4 s ov) 22 6 s 0).1 22 1 s = et ∧ (sI (sI (sI (sI (sI (sI τ 22 1 s et) 22 2 s et) 22 3 s ar) 23 0 s 0) 22 4 s ov) 22 6 s 0).1 22 2 s = et ∧ (sI (sI (sI (sI (sI (sI τ 22 1 s et) 22 2 s et) 22 3 s ar) 23 0 s 0) 22 4 s ov) 22 6 s 0).1 22 3 s = ar ∧ (sI (sI (sI (sI (sI (sI τ 22 1 s et) 22 2 s et) 22 3 s ar) 23 0 s 0) 22 4 s ov) 22 6 s 0).1 22 4 s = ov ∧ (sI (sI (sI (sI (sI (sI τ 22 1 s et) 22 2 s et) 22 3 s ar) 23 0 s 0) 22 4 s ov) 22 6 s 0).1 22 6 s = 0 ∧ (sI (sI (sI (sI (sI (sI τ 22 1 s et) 22 2 s et) 22 3 s ar) 23 0 s 0) 22 4 s ov) 22 6 s 0).1 23 0 s = 0 ∧ (∀ r, r < 4 → (sI (sI (sI (sI (sI (sI τ 22 1 s et) 22 2 s et) 22 3 s ar) 23 0 s 0) 22 4 s ov) 22 6 s 0).1 24 0 (4 * s + r) = if r = 0 then ar else 0) := by
        refine ⟨by simp [u3, k0], by simp [u3, kw], by simp [u3], by simp [u3], by simp [u3], by simp [u3], by simp [u3], by simp [u3], fun r hr => ?_⟩
        rw [← k9 r hr]
        simp [u3]
      have q2 : RoIs (sI (sI (sI (sI (sI (sI τ 22 1 s et) 22 2 s et) 22 3 s ar) 23 0 s 0) 22 4 s ov) 22 6 s 0) (yQ y) := by
        refine ⟨by simpa [u3] using kq.1, kq.2.1, fun p x hp => ?_⟩
        have := kq.2.2 p x hp
        simpa [u3] using this
      revert f2 v q2
      generalize sI (sI (sI (sI (sI (sI τ 22 1 s et) 22 2 s et) 22 3 s ar) 23 0 s 0) 22 4 s ov) 22 6 s 0 = φ
      intro f2 v q2
      obtain ⟨v0, vw, v1, v2, v3, v4, v6, v7, v9⟩ := v
      refine stp_j hJ 3 ⟨trivial, ⟨i20, trivial⟩, _, r_enqueue q2 (hq hlen) hs, ?_⟩
      rintro o υ ⟨w, e1, e2, e3, e4⟩
      subst w
      rw [vw] at e2
      have m : ∀ k i p, ¬ qEq s k i p → υ.1 k i p = φ.1 k i p := e1.1
      have e0 : υ.1 20 0 3 = yL y + 1 := by rw [m 20 0 3 (by simp only [qEq, qRo]; omega)]; exact v0
      have fu : Fr (qBg s) ρ υ := f2.tr e1 (fun _ _ _ z => z) (fun k i p z => by simp only [qEq, qBg] at z ⊢; omega)
      refine stp_j hJ 3 ⟨i20, _, e0, ?_⟩
      rw [eb]
      refine ⟨rfl, ?_, ?_⟩
      · refine h.new hs hz hN hN2 hA et ar ov fu e0 ?_ ?_ ?_ ?_ ?_ e4 ?_ ?_ e3 ?_ e2
        · rw [m 22 0 s (by simp only [qEq, qRo]; omega)]; exact vw
        · rw [m 22 1 s (by simp only [qEq, qRo]; omega)]; exact v1
        · rw [m 22 2 s (by simp only [qEq, qRo]; omega)]; exact v2
        · rw [m 22 3 s (by simp only [qEq, qRo]; omega)]; exact v3
        · rw [m 22 4 s (by simp only [qEq, qRo]; omega)]; exact v4
        · rw [m 22 6 s (by simp only [qEq, qRo]; omega)]; exact v6
        · rw [m 23 0 s (by simp only [qEq, qRo]; omega)]; exact v7
        · intro r hr
          rw [m 24 0 _ (by simp only [qEq, qRo]; omega)]
          exact v9 r hr
      · intro t ht ht0
        have hts : ¬ t = s := fun z => ht0 (by rw [z]; exact hz)
        exact fu.1 22 0 t (by simp only [qBg, qRo]; omega)
    have regs : ∀ (m k : Nat) (τ : mS), k + m = 4 → Fr (qBg s) ρ τ → τ.1 20 0 3 = yL y + 1 → τ.1 22 0 s = yL y + 1 → (∀ r, r < k → τ.1 24 0 (4 * s + r) = if r = 0 then ar else 0) → RoIs τ (yQ y) → J τ 59 [(0, mR 20 0), (1, mI et), (2, mI ar), (3, mI ov), (4, mI (nI s)), (5, mI (nI k))] [] := by
      intro m
      induction m with
      | zero =>
        intro k τ hk f k0 kw k9 kq
        have hk : k = 4 := by omega
        subst hk
        refine stp_j hJ 3 ⟨fun _ => ?_, fun h2 => absurd (nI_le (Nat.le_refl 4) (by decide)) h2⟩
        exact j_pre hJ (lv := [(0, mR 20 0), (1, mI et), (2, mI ar), (3, mI ov), (4, mI (nI s))]) (ext := [(5, mI (nI 4))]) (fin τ f k0 kw k9 kq)
      | succ m ih =>
        intro k τ hk f k0 kw k9 kq
        have put : ∀ v, v = (if k = 0 then ar else 0) → J τ 86 [(0, mR 20 0), (1, mI et), (2, mI ar), (3, mI ov), (4, mI (nI s)), (5, mI (nI k))] [mI v, mI (nI (4 * s + k)), mR 24 0] := by
          intro v hv
          refine stp_j hJ 3 ⟨i24, 4 * s + k, ix_nI (by omega) (by decide), _, nI_1 k, ?_⟩
          refine ih (k + 1) _ (by omega) (f.andI (by simp [qBg]; omega)) (by simpa [u3] using k0) (by simpa [u3] using kw) ?_ ?_
          · intro r hr
            by_cases hrk : r = k
            · subst hrk
              simp [u3, hv]
            · have := k9 r (by omega)
              simp [u3, hrk, this]
          · refine ⟨by simpa [u3] using kq.1, kq.2.1, fun p x hp => ?_⟩
            have := kq.2.2 p x hp
            simpa [u3] using this
        refine stp_j hJ 3 ⟨fun h2 => absurd h2 (nI_ge (a := k) (b := 4) (by omega) (by decide)), fun _ => ?_⟩
        refine stp_j hJ 9 ⟨i20, _, nI_4 s, _, nI_add (4 * s) k, fun h2 => ?_, fun h2 => ?_⟩
        · refine stp_j hJ 1 (put 0 ?_)
          rw [if_neg (fun z => h2 (by rw [z]; exact nI_0))]
        · refine stp_j hJ 2 (put ar ?_)
          have : k = 0 := Decidable.byContradiction (fun z => nI_ne0 (Nat.pos_of_ne_zero z) (by omega) (Decidable.not_not.mp h2))
          rw [if_pos this]
    refine stp_j hJ 6 ⟨i20, _, h4.1, _, rfl, i20, ?_⟩
    refine stp_j hJ 6 ⟨i20, i20, yL y + 1, (by simp [u3]), i22 (by decide), s, ix_nI hs (by decide), ?_⟩
    refine stp_j hJ 2 (regs 4 0 _ rfl ((Fr.oI (by simp [qBg])).andI (by simp [qBg])) (by simp [u3]) (by simp [u3]) (fun r hr => by omega) ?_)
    refine ⟨by simpa [u3] using h5.1, h5.2.1, fun p x hp => ?_⟩
    have := h5.2.2 p x hp
    simpa [u3] using this
  have loop : ∀ (m s : Nat), s + m = 8 → (∀ t, t < s → ¬ ρ.1 22 0 t = 0) → J ρ 3 [(0, mR 20 0), (1, mI et), (2, mI ar), (3, mI ov), (4, mI (nI s))] [] := by
    intro m
    induction m with
    | zero =>
      intro s hs hz
      have hs : s = 8 := by omega
      subst hs
      refine stp_j hJ 3 ⟨fun _ => ?_, fun h2 => absurd (nI_le (Nat.le_refl 8) (by decide)) h2⟩
      refine stp_j hJ 3 ⟨fun h2 => absurd rfl h2, fun _ => ?_⟩
      have eb : yBegin y et ar ov = (y, none) := by rw [yBegin, if_neg (h1.full hn hz)]
      refine stp_j hJ 2 ⟨?_, ?_, fun t _ _ => rfl⟩
      · rw [eb]
        rfl
      · rw [eb]
        exact h
    | succ m ih =>
      intro s hs hz
      refine stp_j hJ 3 ⟨fun h2 => absurd h2 (nI_ge (a := s) (b := 8) (by omega) (by decide)), fun _ => ?_⟩
      refine stp_j hJ 5 ⟨i20, i22 (by decide), s, ix_nI (by omega) (by decide), _, rfl, fun h2 => ?_, fun h2 => ?_⟩
      · have hz0 : ρ.1 22 0 s = 0 := by
          rcases h1.1 s (by omega) with q | q
          · exact q
          · exact absurd h2 (Int32.not_le.mpr q.2)
        refine stp_j hJ 3 ⟨fun _ => free s (by omega) hz0, fun h3 => ?_⟩
        have := (nI_eq (a := s) (b := 8) (by omega) (by decide)).mp (Decidable.not_not.mp h3)
        omega
      · refine stp_j hJ 2 ⟨_, nI_1 s, ih (s + 1) (by omega) ?_⟩
        intro t ht
        by_cases hts : t = s
        · rw [hts]
          intro z
          exact h2 (by rw [z]; decide)
        · exact hz t (by omega)
  exact stp_j hJ 2 (loop 8 0 rfl (fun t ht => by omega))
