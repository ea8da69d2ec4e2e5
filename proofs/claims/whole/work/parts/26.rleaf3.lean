/-! The reference: takeMail, dropClock, due -/
theorem r_takeMail {σ : mS} {ms : List (Int32 × Int32 × Int32)} (h : MlIs σ ms) {k : Nat} (hk : k < ms.length) : Meets clR yX7_takeMail (kX7_takeMail :: wT) rX7_takeMail [mR 20 0, mI (nI k)] σ (fun r τ => r = none ∧ Fr qMl σ τ ∧ MlIs τ (ms.eraseIdx k)) := by
  refine Meets.of SX7_takeMail rfl (by decide) rfl (Nat.le_of_ble_eq_true rfl) ?_
  intro J hJ
  have h8 := h.2.1
  obtain ⟨L, hL⟩ : ∃ L, ms.length = L + 1 := ⟨ms.length - 1, by omega⟩
  have hE : (ms.eraseIdx k).length = L := by rw [List.length_eraseIdx_of_lt hk]; omega
  have loop : ∀ (m n : Nat) (τ : mS), n + m = L → k ≤ n → Fr qMl σ τ → τ.1 20 0 18 = nI L → (∀ (p : Nat) (x : Int32 × Int32 × Int32), p < n → (ms.eraseIdx k)[p]? = some x → τ.1 25 1 p = x.1 ∧ τ.1 25 2 p = x.2.1 ∧ τ.1 25 3 p = x.2.2) → (∀ (p : Nat) (x : Int32 × Int32 × Int32), n < p → ms[p]? = some x → τ.1 25 1 p = x.1 ∧ τ.1 25 2 p = x.2.1 ∧ τ.1 25 3 p = x.2.2) → J τ 12 [(0, mR 20 0), (1, mI (nI k)), (2, mI (nI n))] [] := by
    intro m
    induction m with
    | zero =>
      intro n τ hn hkn hfr hq hm1 hm2
      have hn : n = L := by omega
      subst hn
      refine stp_j hJ 4 ⟨i20, _, hq, fun h2 => ?_, fun h2 => absurd (nI_le (Nat.le_refl n) (by omega)) h2⟩
      refine stp_j hJ 1 ⟨rfl, hfr, by rw [hE]; exact hq, by omega, fun p x hp => ?_⟩
      exact hm1 p x (by have := (List.getElem?_eq_some_iff.mp hp).1; omega) hp
    | succ m ih =>
      intro n τ hn hkn hfr hq hm1 hm2
      have hx : ms[n + 1]? = some ms[n + 1] := List.getElem?_eq_getElem (by omega)
      have hx2 : (ms.eraseIdx k)[n]? = some ms[n + 1] := by
        rw [List.getElem?_eraseIdx_of_ge hkn]
        exact hx
      generalize ms[n + 1] = a at hx hx2
      obtain ⟨r1, r2, r3⟩ := hm2 (n + 1) a (by omega) hx
      refine stp_j hJ 4 ⟨i20, _, hq, fun h2 => absurd h2 (nI_ge (a := n) (b := L) (by omega) (by omega)), fun _ => ?_⟩
      refine stp_j hJ 10 ⟨i20, i20, _, nI_1 n, i25 (by decide), n + 1, ix_nI (by omega) (by decide), a.1, r1, i25 (by decide), n, ix_nI (by omega) (by decide), ?_⟩
      refine stp_j hJ 10 ⟨i20, i20, _, nI_1 n, i25 (by decide), n + 1, ix_nI (by omega) (by decide), a.2.1, (by simp [u3, r2]), i25 (by decide), n, ix_nI (by omega) (by decide), ?_⟩
      refine stp_j hJ 10 ⟨i20, i20, _, nI_1 n, i25 (by decide), n + 1, ix_nI (by omega) (by decide), a.2.2, (by simp [u3, r3]), i25 (by decide), n, ix_nI (by omega) (by decide), ?_⟩
      refine stp_j hJ 2 ⟨_, nI_1 n, ?_⟩
      refine ih (n + 1) _ (by omega) (by omega) (((hfr.andI (by simp [qMl])).andI (by simp [qMl])).andI (by simp [qMl])) (by simp [u3, hq]) ?_ ?_
      · intro p x hp1 hp
        by_cases hpn : p = n
        · subst hpn
          rw [hx2] at hp
          cases hp
          simp [u3]
        · have := hm1 p x (by omega) hp
          simp [u3, hpn, this]
      · intro p x hp1 hp
        have hpn : ¬ p = n := by omega
        have := hm2 p x (by omega) hp
        simp [u3, hpn, this]
  refine stp_j hJ 8 ⟨i20, _, h.1.trans (by rw [hL]), _, nI_pred L, i20, ?_⟩
  refine loop (L - k) k _ (by omega) (Nat.le_refl k) (Fr.oI (by simp [qMl])) (by simp [u3]) ?_ ?_
  · intro p x hp1 hp
    rw [List.getElem?_eraseIdx_of_lt hp1] at hp
    have := h.2.2 p x hp
    simp [u3, this]
  · intro p x hp1 hp
    have := h.2.2 p x hp
    simp [u3, this]
theorem r_dropClock {σ : mS} {cs : List (Int32 × Int32 × Int32 × Bool)} (h : CkIs σ cs) {k : Nat} (hk : k < cs.length) : Meets clR yX7_dropClock (kX7_dropClock :: wT) rX7_dropClock [mR 20 0, mI (nI k)] σ (fun r τ => r = none ∧ Fr qCk σ τ ∧ CkIs τ (cs.eraseIdx k)) := by
  refine Meets.of SX7_dropClock rfl (by decide) rfl (Nat.le_of_ble_eq_true rfl) ?_
  intro J hJ
  have h8 := h.2.1
  obtain ⟨L, hL⟩ : ∃ L, cs.length = L + 1 := ⟨cs.length - 1, by omega⟩
  have hE : (cs.eraseIdx k).length = L := by rw [List.length_eraseIdx_of_lt hk]; omega
  have loop : ∀ (m n : Nat) (τ : mS), n + m = L → k ≤ n → Fr qCk σ τ → τ.1 20 0 26 = nI L → (∀ (p : Nat) (x : Int32 × Int32 × Int32 × Bool), p < n → (cs.eraseIdx k)[p]? = some x → τ.1 26 0 p = x.1 ∧ τ.1 26 1 p = x.2.1 ∧ τ.1 26 2 p = x.2.2.1 ∧ τ.1 27 0 p = bI x.2.2.2) → (∀ (p : Nat) (x : Int32 × Int32 × Int32 × Bool), n < p → cs[p]? = some x → τ.1 26 0 p = x.1 ∧ τ.1 26 1 p = x.2.1 ∧ τ.1 26 2 p = x.2.2.1 ∧ τ.1 27 0 p = bI x.2.2.2) → J τ 12 [(0, mR 20 0), (1, mI (nI k)), (2, mI (nI n))] [] := by
    intro m
    induction m with
    | zero =>
      intro n τ hn hkn hfr hq hm1 hm2
      have hn : n = L := by omega
      subst hn
      refine stp_j hJ 4 ⟨i20, _, hq, fun h2 => ?_, fun h2 => absurd (nI_le (Nat.le_refl n) (by omega)) h2⟩
      refine stp_j hJ 1 ⟨rfl, hfr, by rw [hE]; exact hq, by omega, fun p x hp => ?_⟩
      exact hm1 p x (by have := (List.getElem?_eq_some_iff.mp hp).1; omega) hp
    | succ m ih =>
      intro n τ hn hkn hfr hq hm1 hm2
      have hx : cs[n + 1]? = some cs[n + 1] := List.getElem?_eq_getElem (by omega)
      have hx2 : (cs.eraseIdx k)[n]? = some cs[n + 1] := by
        rw [List.getElem?_eraseIdx_of_ge hkn]
        exact hx
      generalize cs[n + 1] = a at hx hx2
      obtain ⟨r1, r2, r3, r4⟩ := hm2 (n + 1) a (by omega) hx
      refine stp_j hJ 4 ⟨i20, _, hq, fun h2 => absurd h2 (nI_ge (a := n) (b := L) (by omega) (by omega)), fun _ => ?_⟩
      refine stp_j hJ 10 ⟨i20, i20, _, nI_1 n, i26 (by decide), n + 1, ix_nI (by omega) (by decide), a.1, r1, i26 (by decide), n, ix_nI (by omega) (by decide), ?_⟩
      refine stp_j hJ 10 ⟨i20, i20, _, nI_1 n, i26 (by decide), n + 1, ix_nI (by omega) (by decide), a.2.1, (by simp [u3, r2]), i26 (by decide), n, ix_nI (by omega) (by decide), ?_⟩
      refine stp_j hJ 10 ⟨i20, i20, _, nI_1 n, i26 (by decide), n + 1, ix_nI (by omega) (by decide), a.2.2.1, (by simp [u3, r3]), i26 (by decide), n, ix_nI (by omega) (by decide), ?_⟩
      refine stp_j hJ 10 ⟨i20, i20, _, nI_1 n, i27, n + 1, ix_nI (by omega) (by decide), bI a.2.2.2, (by simp [u3, r4]), i27, n, ix_nI (by omega) (by decide), bI01 _, ?_⟩
      refine stp_j hJ 2 ⟨_, nI_1 n, ?_⟩
      refine ih (n + 1) _ (by omega) (by omega) ((((hfr.andI (by simp [qCk])).andI (by simp [qCk])).andI (by simp [qCk])).andI (by simp [qCk])) (by simp [u3, hq]) ?_ ?_
      · intro p x hp1 hp
        by_cases hpn : p = n
        · subst hpn
          rw [hx2] at hp
          cases hp
          simp [u3]
        · have := hm1 p x (by omega) hp
          simp [u3, hpn, this]
      · intro p x hp1 hp
        have hpn : ¬ p = n := by omega
        have := hm2 p x (by omega) hp
        simp [u3, hpn, this]
  refine stp_j hJ 8 ⟨i20, _, h.1.trans (by rw [hL]), _, nI_pred L, i20, ?_⟩
  refine loop (L - k) k _ (by omega) (Nat.le_refl k) (Fr.oI (by simp [qCk])) (by simp [u3]) ?_ ?_
  · intro p x hp1 hp
    rw [List.getElem?_eraseIdx_of_lt hp1] at hp
    have := h.2.2 p x hp
    simp [u3, this]
  · intro p x hp1 hp
    have := h.2.2 p x hp
    simp [u3, this]
theorem dr_cons {α : Type} {l : List α} {n : Nat} (h : n < l.length) : l.drop n = l[n] :: l.drop (n + 1) := List.drop_eq_getElem_cons h
theorem r_due {σ : mS} {cs : List (Int32 × Int32 × Int32 × Bool)} (h : CkIs σ cs) : Meets clR yX7_due (kX7_due :: wT) rX7_due [mR 20 0] σ (fun r τ => τ = σ ∧ r = some (mI (idI (cs.findIdx? (fun c => c.2.1 == σ.1 20 0 17))))) := by
  refine Meets.of SX7_due rfl (by decide) rfl (Nat.le_of_ble_eq_true rfl) ?_
  intro J hJ
  have h8 := h.2.1
  have loop : ∀ (m : Nat), m ≤ cs.length → J σ 9 [(0, mR 20 0), (1, mI (idI (((cs.drop m).findIdx? (fun c => c.2.1 == σ.1 20 0 17)).map (fun k => m + k)))), (2, mI (nI m - 1))] [] := by
    intro m
    induction m with
    | zero =>
      intro _
      refine stp_j hJ 2 ⟨fun _ => ?_, fun h2 => absurd (by decide) h2⟩
      refine stp_j hJ 2 ⟨rfl, ?_⟩
      rw [fi_0]
      rfl
    | succ n ih =>
      intro hm
      rw [nI_pred]
      have ih := ih (by omega)
      have hx : cs[n]? = some cs[n] := List.getElem?_eq_getElem (by omega)
      rw [dr_cons (l := cs) (n := n) (by omega), ← fi_cons] at ih
      generalize cs[n] = a at hx ih
      refine stp_j hJ 2 ⟨fun h2 => absurd h2 (nI_pos (by omega)), fun _ => ?_⟩
      refine stp_j hJ 7 ⟨i20, i26 (by decide), n, ix_nI (by omega) (by decide), _, (h.2.2 n a hx).2.1, i20, _, rfl, fun h3 => ?_, fun h3 => ?_⟩
      · rw [if_neg (by simpa using h3)] at ih
        exact stp_j hJ 4 ⟨_, (Int32.sub_eq_add_neg _ _).symm, ih⟩
      · rw [if_pos (by simpa using h3)] at ih
        exact stp_j hJ 5 ⟨_, (Int32.sub_eq_add_neg _ _).symm, ih⟩
  have := loop cs.length (Nat.le_refl _)
  rw [List.drop_length] at this
  exact stp_j hJ 7 ⟨i20, _, h.1, _, rfl, this⟩
