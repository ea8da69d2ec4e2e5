/-! The reference: rows that grow and shrink -/
abbrev qEq (s : Nat) : Nat → Nat → Nat → Prop := fun k i p => qRo k i p ∨ (k = 23 ∧ i = 1 ∧ p = s) ∨ (k = 22 ∧ i = 5 ∧ p = s)
theorem r_enqueue {σ : mS} {xs : List Int32} (h : RoIs σ xs) (hl : xs.length < 8) {s : Nat} (hs : s < 8) : Meets clR yX7_enqueue (kX7_enqueue :: wT) rX7_enqueue [mR 20 0, mI (nI s)] σ (fun r τ => r = none ∧ Fr (qEq s) σ τ ∧ RoIs τ (xs ++ [σ.1 22 0 s]) ∧ τ.1 23 1 s = 0 ∧ τ.1 22 5 s = 0) := by
  refine Meets.of SX7_enqueue rfl (by decide) rfl (Nat.le_of_ble_eq_true rfl) ?_
  intro J hJ
  refine stp_j hJ 5 ⟨i20, i23 (by decide), _, ix_nI hs (by decide), Or.inl rfl, ?_⟩
  refine stp_j hJ 5 ⟨i20, i22 (by decide), _, ix_nI hs (by decide), ?_⟩
  refine stp_j hJ 9 ⟨i20, i20, _, h.1, i20, i22 (by decide), s, ix_nI hs (by decide), _, (by simp [u3]; rfl), i22 (by decide), _, ix_nI hl (by decide), ?_⟩
  refine stp_j hJ 7 ⟨i20, _, h.1, _, nI_1 xs.length, i20, rfl, (((Fr.oI (by simp [qEq])).andI (by simp [qEq])).andI (by simp [qEq, qRo])).andI (by simp [qEq, qRo]), ?_, ?_, ?_⟩
  · refine ⟨by simp [u3], by simp; omega, fun p m hp => ?_⟩
    by_cases hpl : p < xs.length
    · rw [List.getElem?_append_left hpl] at hp
      have hne : ¬ p = xs.length := by omega
      have := h.2.2 p m hp
      simp [u3, hne, this]
    · rw [List.getElem?_append_right (by omega)] at hp
      have hz : p - xs.length < 1 := (List.getElem?_eq_some_iff.mp hp).1
      have hpe : p = xs.length := by omega
      subst hpe
      simp at hp
      subst hp
      simp [u3]
  · simp [u3]
  · simp [u3]
theorem r_leave {σ : mS} {xs : List Int32} (h : RoIs σ xs) (id : Int32) : Meets clR yX7_leave (kX7_leave :: wT) rX7_leave [mR 20 0, mI id] σ (fun r τ => r = none ∧ Fr qRo σ τ ∧ RoIs τ (xs.filter (fun x => x != id))) := by
  refine Meets.of SX7_leave rfl (by decide) rfl (Nat.le_of_ble_eq_true rfl) ?_
  intro J hJ
  have h8 := h.2.1
  have loop : ∀ (rest : List Int32) (n : Nat) (dn : List Int32) (τ : mS), n < 2 ^ 31 → xs.drop n = rest → n ≤ xs.length → dn.length ≤ n → xs.filter (fun x => x != id) = dn ++ rest.filter (fun x => x != id) → Fr qRo σ τ → τ.1 20 0 15 = nI xs.length → (∀ (p : Nat) (x : Int32), dn[p]? = some x → τ.1 22 7 p = x) → (∀ (p : Nat) (x : Int32), n ≤ p → xs[p]? = some x → τ.1 22 7 p = x) → J τ 4 [(0, mR 20 0), (1, mI id), (2, mI (nI dn.length)), (3, mI (nI n))] [] := by
    intro rest
    induction rest with
    | nil =>
      intro n dn τ hb hn hn2 hd hf hfr hq hm1 hm2
      have hge : xs.length ≤ n := List.drop_eq_nil_iff.mp hn
      refine stp_j hJ 4 ⟨i20, _, hq, fun h2 => ?_, fun h2 => ?_⟩
      · have hf : xs.filter (fun x => x != id) = dn := by rw [hf]; simp
        refine stp_j hJ 4 ⟨i20, rfl, hfr.andI (by simp [qRo]), ?_⟩
        rw [hf]
        refine ⟨by simp [u3], by omega, fun p x hp => ?_⟩
        have := hm1 p x hp
        simp [u3, this]
      · exact absurd (nI_le hge hb) h2
    | cons a rest ih =>
      intro n dn τ hb hn hn2 hd hf hfr hq hm1 hm2
      have hlt : n < xs.length := by
        have := congrArg List.length hn
        simp at this
        omega
      have hx : xs[n]? = some a := by
        have := congrArg (fun z => z[0]?) hn
        simpa using this
      have hr := hm2 n a (Nat.le_refl n) hx
      have hdr : xs.drop (n + 1) = rest := by
        rw [← List.drop_drop, hn]
        rfl
      refine stp_j hJ 4 ⟨i20, _, hq, fun h2 => ?_, fun h2 => ?_⟩
      · exact absurd h2 (nI_ge hlt (by omega))
      · refine stp_j hJ 8 ⟨i20, i20, i22 (by decide), n, ix_nI (by omega) (by decide), _, hr, i22 (by decide), _, ix_nI (p := dn.length) (by omega) (by decide), ?_⟩
        have e1 : (sI τ 22 7 dn.length a).1 22 7 n = a := by
          by_cases hz : n = dn.length
          · simp [u3, hz]
          · simp [u3, hz, hr]
        refine stp_j hJ 6 ⟨i20, i22 (by decide), n, ix_nI (by omega) (by decide), _, e1, fun h3 => ?_, fun h3 => ?_⟩
        · refine stp_j hJ 6 ⟨_, nI_1 dn.length, _, nI_1 n, ?_⟩
          have := ih (n + 1) (dn ++ [a]) (sI τ 22 7 dn.length a) (by omega) hdr (by omega) (by simp; omega) ?_ (hfr.andI (by simp [qRo])) (by simp [u3, hq]) ?_ ?_
          · rw [show (dn ++ [a]).length = dn.length + 1 by simp] at this
            exact this
          · rw [hf, List.filter_cons_of_pos (by simpa using h3)]
            simp
          · intro p x hp
            by_cases hpl : p < dn.length
            · rw [List.getElem?_append_left hpl] at hp
              have hne : ¬ p = dn.length := by omega
              have := hm1 p x hp
              simp [u3, hne, this]
            · rw [List.getElem?_append_right (by omega)] at hp
              have hz : p - dn.length < 1 := (List.getElem?_eq_some_iff.mp hp).1
              have hpe : p = dn.length := by omega
              subst hpe
              simp at hp
              subst hp
              simp [u3]
          · intro p x hp1 hp
            have hne : ¬ p = dn.length := by omega
            have := hm2 p x (by omega) hp
            simp [u3, hne, this]
        · have h3 : a = id := Decidable.not_not.mp h3
          refine stp_j hJ 5 ⟨_, nI_1 n, ?_⟩
          refine ih (n + 1) dn (sI τ 22 7 dn.length a) (by omega) hdr (by omega) (by omega) ?_ (hfr.andI (by simp [qRo])) (by simp [u3, hq]) ?_ ?_
          · rw [hf, List.filter_cons_of_neg (by simpa using h3)]
          · intro p x hp
            have hpl : p < dn.length := (List.getElem?_eq_some_iff.mp hp).1
            have hne : ¬ p = dn.length := by omega
            have := hm1 p x hp
            simp [u3, hne, this]
          · intro p x hp1 hp
            have hne : ¬ p = dn.length := by omega
            have := hm2 p x (by omega) hp
            simp [u3, hne, this]
  exact stp_j hJ 4 (loop xs 0 [] σ (by decide) rfl (Nat.zero_le _) (Nat.le_refl 0) rfl Fr.rf h.1 (fun p x hp => by simp at hp) (fun p x _ hp => h.2.2 p x hp))
theorem r_unlink {σ : mS} {ls : List (Int32 × Int32)} {l : Int32 × Int32} (h : LkIs σ (ls ++ [l])) {k : Nat} (hk : k ≤ ls.length) : Meets clR yX7_unlink (kX7_unlink :: wT) rX7_unlink [mR 20 0, mI (nI k)] σ (fun r τ => r = none ∧ Fr qLk σ τ ∧ LkIs τ (ls.set k l)) := by
  obtain ⟨h1, h2, h3⟩ := h
  simp only [List.length_append, List.length_cons, List.length_nil, Nat.zero_add] at h1 h2
  have hl := h3 ls.length l (by simp)
  refine Meets.of SX7_unlink rfl (by decide) rfl (Nat.le_of_ble_eq_true rfl) ?_
  intro J hJ
  refine stp_j hJ 6 ⟨i20, _, h1, _, nI_pred ls.length, i20, ?_⟩
  refine stp_j hJ 9 ⟨i20, i20, i20, nI ls.length, (by simp [u3]), i25 (by decide), ls.length, ix_nI (by omega) (by decide), _, (by simp [u3]; exact hl.1), i25 (by decide), k, ix_nI (by omega) (by decide), ?_⟩
  refine stp_j hJ 10 ⟨i20, i20, i20, nI ls.length, (by simp [u3]), i25 (by decide), ls.length, ix_nI (by omega) (by decide), _, (by simp [u3]; exact hl.2), i25 (by decide), k, ix_nI (by omega) (by decide), rfl, ((Fr.oI (by simp [qLk])).andI (by simp [qLk])).andI (by simp [qLk]), ?_⟩
  refine ⟨by simp [u3], by simp; omega, fun p x hp => ?_⟩
  rw [List.getElem?_set] at hp
  by_cases hpk : k = p
  · subst hpk
    rw [if_pos rfl] at hp
    split at hp
    · cases hp
      simp [u3]
    · cases hp
  · rw [if_neg hpk] at hp
    have hpl : p < ls.length := (List.getElem?_eq_some_iff.mp hp).1
    have := h3 p x (by rw [List.getElem?_append_left hpl]; exact hp)
    have hne : ¬ p = k := fun z => hpk z.symm
    simp [u3, hne, this]
def mIdx (id : Int32) : List (Int32 × Int32 × Int32) → Int32 → Nat → Option Nat
  | [], _, _ => none
  | m :: ms, k, n => if m.1 = id then (if k = 0 then some n else mIdx id ms (k + -1) (n + 1)) else mIdx id ms k (n + 1)
theorem r_mailAt {σ : mS} {ms : List (Int32 × Int32 × Int32)} (h : MlIs σ ms) (id k : Int32) : Meets clR yX7_mailAt (kX7_mailAt :: wT) rX7_mailAt [mR 20 0, mI id, mI k] σ (fun r τ => τ = σ ∧ r = some (mI (idI (mIdx id ms k 0)))) := by
  refine Meets.of SX7_mailAt rfl (by decide) rfl (Nat.le_of_ble_eq_true rfl) ?_
  intro J hJ
  have h8 := h.2.1
  have loop : ∀ (rest : List (Int32 × Int32 × Int32)) (n : Nat) (j : Int32), n < 2 ^ 31 → ms.drop n = rest → mIdx id ms k 0 = mIdx id rest j n → J σ 5 [(0, mR 20 0), (1, mI id), (2, mI k), (3, mI j), (4, mI (nI n))] [] := by
    intro rest
    induction rest with
    | nil =>
      intro n j hb hn hf
      have hge : ms.length ≤ n := List.drop_eq_nil_iff.mp hn
      refine stp_j hJ 4 ⟨i20, _, h.1, fun h2 => ?_, fun h2 => ?_⟩
      · refine stp_j hJ 2 ⟨rfl, ?_⟩
        rw [hf]
        rfl
      · exact absurd (nI_le hge hb) h2
    | cons a rest ih =>
      intro n j hb hn hf
      have hlt : n < ms.length := by
        have := congrArg List.length hn
        simp at this
        omega
      have hx : ms[n]? = some a := by
        have := congrArg (fun z => z[0]?) hn
        simpa using this
      have hdr : ms.drop (n + 1) = rest := by
        rw [← List.drop_drop, hn]
        rfl
      rw [mIdx] at hf
      refine stp_j hJ 4 ⟨i20, _, h.1, fun h2 => ?_, fun h2 => ?_⟩
      · exact absurd h2 (nI_ge hlt (by omega))
      · refine stp_j hJ 6 ⟨i20, i25 (by decide), n, ix_nI (by omega) (by decide), _, (h.2.2 n a hx).1, fun h3 => ?_, fun h3 => ?_⟩
        · rw [if_neg h3] at hf
          exact stp_j hJ 2 ⟨_, nI_1 n, ih (n + 1) j (by omega) hdr hf⟩
        · rw [if_pos (Decidable.not_not.mp h3)] at hf
          refine stp_j hJ 2 ⟨fun h4 => ?_, fun h4 => ?_⟩
          · rw [if_neg h4] at hf
            exact stp_j hJ 3 ⟨_, rfl, _, nI_1 n, ih (n + 1) (j + -1) (by omega) hdr hf⟩
          · rw [if_pos (Decidable.not_not.mp h4)] at hf
            refine stp_j hJ 2 ⟨rfl, ?_⟩
            rw [hf]
            rfl
  exact stp_j hJ 4 (loop ms 0 k (by decide) rfl rfl)
