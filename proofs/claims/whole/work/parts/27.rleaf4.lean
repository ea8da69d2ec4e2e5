/-! The reference: linkAt, stopClocks, come, exits -/
def lkL (a b : Int32) : List (Int32 × Int32) → Nat → Option Nat → Option Nat
  | [], _, r => r
  | q :: qs, n, r => lkL a b qs (n + 1) (if isK a b q = true then some n else r)
theorem r_linkAt {σ : mS} {ls : List (Int32 × Int32)} (h : LkIs σ ls) (a b : Int32) : Meets clR yX7_linkAt (kX7_linkAt :: wT) rX7_linkAt [mR 20 0, mI a, mI b] σ (fun r τ => τ = σ ∧ r = some (mI (idI (lkL a b ls 0 none)))) := by
  refine Meets.of SX7_linkAt rfl (by decide) rfl (Nat.le_of_ble_eq_true rfl) ?_
  intro J hJ
  have h8 := h.2.1
  have loop : ∀ (rest : List (Int32 × Int32)) (n : Nat) (r : Option Nat), n < 2 ^ 31 → ls.drop n = rest → lkL a b ls 0 none = lkL a b rest n r → J σ 5 [(0, mR 20 0), (1, mI a), (2, mI b), (3, mI (idI r)), (4, mI (nI n))] [] := by
    intro rest
    induction rest with
    | nil =>
      intro n r hb hn hf
      have hge : ls.length ≤ n := List.drop_eq_nil_iff.mp hn
      refine stp_j hJ 4 ⟨i20, _, h.1, fun h2 => ?_, fun h2 => ?_⟩
      · refine stp_j hJ 2 ⟨rfl, ?_⟩
        rw [hf]
        rfl
      · exact absurd (nI_le hge hb) h2
    | cons q rest ih =>
      intro n r hb hn hf
      have hlt : n < ls.length := by
        have := congrArg List.length hn
        simp at this
        omega
      have hx : ls[n]? = some q := by
        have := congrArg (fun z => z[0]?) hn
        simpa using this
      have hdr : ls.drop (n + 1) = rest := by
        rw [← List.drop_drop, hn]
        rfl
      obtain ⟨r1, r2⟩ := h.2.2 n q hx
      rw [lkL] at hf
      have go1 : isK a b q = true → J σ 58 [(0, mR 20 0), (1, mI a), (2, mI b), (3, mI (idI r)), (4, mI (nI n))] [] := by
        intro hk
        rw [if_pos hk] at hf
        refine stp_j hJ 5 ⟨fun h2 => absurd h2 (by decide), fun _ => ?_⟩
        refine stp_j hJ 5 ⟨_, nI_1 n, ?_⟩
        exact j_pre hJ (lv := [(0, mR 20 0), (1, mI a), (2, mI b), (3, mI (idI (some n))), (4, mI (nI (n + 1)))]) (ext := [(5, mI 1)]) (ih (n + 1) (some n) (by omega) hdr hf)
      have go0 : ¬ isK a b q = true → J σ 62 [(0, mR 20 0), (1, mI a), (2, mI b), (3, mI (idI r)), (4, mI (nI n))] [] := by
        intro hk
        rw [if_neg hk] at hf
        refine stp_j hJ 4 ⟨fun _ => ?_, fun h2 => absurd rfl h2⟩
        refine stp_j hJ 4 ⟨_, nI_1 n, ?_⟩
        exact j_pre hJ (lv := [(0, mR 20 0), (1, mI a), (2, mI b), (3, mI (idI r)), (4, mI (nI (n + 1)))]) (ext := [(5, mI 0)]) (ih (n + 1) r (by omega) hdr hf)
      have second : ¬ (q.1 = a ∧ q.2 = b) → J σ 36 [(0, mR 20 0), (1, mI a), (2, mI b), (3, mI (idI r)), (4, mI (nI n))] [] := by
        intro hne
        refine stp_j hJ 6 ⟨i20, i25 (by decide), n, ix_nI (by omega) (by decide), _, r1, fun h3 => ?_, fun h3 => ?_⟩
        · refine go0 ?_
          simp [isK]
          exact ⟨fun z w => hne ⟨z, w⟩, fun z => absurd z h3⟩
        · refine stp_j hJ 6 ⟨i20, i25 (by decide), n, ix_nI (by omega) (by decide), _, r2, fun h4 => ?_, fun h4 => ?_⟩
          · refine go0 ?_
            simp [isK]
            exact ⟨fun z w => hne ⟨z, w⟩, fun _ z => absurd z h4⟩
          · refine go1 ?_
            simp [isK, Decidable.not_not.mp h3, Decidable.not_not.mp h4]
      refine stp_j hJ 4 ⟨i20, _, h.1, fun h2 => ?_, fun h2 => ?_⟩
      · exact absurd h2 (nI_ge hlt (by omega))
      · refine stp_j hJ 6 ⟨i20, i25 (by decide), n, ix_nI (by omega) (by decide), _, r1, fun h3 => ?_, fun h3 => ?_⟩
        · exact second (fun z => h3 z.1)
        · refine stp_j hJ 6 ⟨i20, i25 (by decide), n, ix_nI (by omega) (by decide), _, r2, fun h4 => ?_, fun h4 => ?_⟩
          · refine go1 ?_
            simp [isK, Decidable.not_not.mp h3, h4]
          · exact second (fun z => h4 z.2)
  exact stp_j hJ 4 (loop ls 0 none (by decide) rfl rfl)
theorem r_stopClocks {σ : mS} {cs : List (Int32 × Int32 × Int32 × Bool)} (h : CkIs σ cs) (id : Int32) (all : Bool) : Meets clR yX7_stopClocks (kX7_stopClocks :: wT) rX7_stopClocks [mR 20 0, mI id, mI (bI all)] σ (fun r τ => r = none ∧ Fr qCk σ τ ∧ CkIs τ (cs.filter (fun c => !(c.1 == id && (all || c.2.2.2))))) := by
  refine Meets.of SX7_stopClocks rfl (by decide) rfl (Nat.le_of_ble_eq_true rfl) ?_
  intro J hJ
  have loop : ∀ (m : Nat) (pre suf : List (Int32 × Int32 × Int32 × Bool)) (τ : mS), pre.length = m → CkIs τ (pre ++ suf) → Fr qCk σ τ → cs.filter (fun c => !(c.1 == id && (all || c.2.2.2))) = pre.filter (fun c => !(c.1 == id && (all || c.2.2.2))) ++ suf → J τ 7 [(0, mR 20 0), (1, mI id), (2, mI (bI all)), (3, mI (nI m - 1))] [] := by
    intro m
    induction m with
    | zero =>
      intro pre suf τ hm hc hfr hf
      have hp : pre = [] := List.eq_nil_of_length_eq_zero hm
      subst hp
      refine stp_j hJ 2 ⟨fun _ => ?_, fun h2 => absurd (by decide) h2⟩
      refine stp_j hJ 1 ⟨rfl, hfr, ?_⟩
      rw [hf]
      exact hc
    | succ n ih =>
      intro pre suf τ hm hc hfr hf
      obtain ⟨p, a, hp⟩ : ∃ p a, pre = p ++ [a] := by
        rcases List.eq_nil_or_concat pre with hz | ⟨p, a, hz⟩
        · rw [hz] at hm
          simp at hm
        · exact ⟨p, a, by simpa using hz⟩
      subst hp
      have hpl : p.length = n := by simpa using hm
      have hx : (p ++ [a] ++ suf)[n]? = some a := by
        rw [← hpl]
        simp
      have h10 := hc.2.1
      simp at h10
      obtain ⟨r1, r2, r3, r4⟩ := hc.2.2 n a hx
      rw [nI_pred]
      have keep : (!(a.1 == id && (all || a.2.2.2))) = true → J τ 39 [(0, mR 20 0), (1, mI id), (2, mI (bI all)), (3, mI (nI n))] [] := by
        intro hk
        refine stp_j hJ 2 ⟨_, (Int32.sub_eq_add_neg _ _).symm, ?_⟩
        refine ih p (a :: suf) τ hpl (by simpa using hc) hfr ?_
        rw [hf, List.filter_append, List.filter_cons_of_pos (p := fun c : Int32 × Int32 × Int32 × Bool => !(c.1 == id && (all || c.2.2.2))) (a := a) (by exact hk)]
        simp
      have drop : ¬ (!(a.1 == id && (all || a.2.2.2))) = true → J τ 34 [(0, mR 20 0), (1, mI id), (2, mI (bI all)), (3, mI (nI n))] [] := by
        intro hk
        refine stp_j hJ 3 ⟨trivial, ⟨i20, trivial⟩, _, r_dropClock hc (k := n) (by simp; omega), ?_⟩
        rintro o υ ⟨w, f1, f2⟩
        subst w
        refine stp_j hJ 2 ⟨_, (Int32.sub_eq_add_neg _ _).symm, ?_⟩
        refine ih p suf υ hpl ?_ (hfr.tr f1 (fun _ _ _ z => z) (fun _ _ _ z => z)) ?_
        · rw [List.append_assoc, List.eraseIdx_append_of_length_le (by omega), hpl, Nat.sub_self] at f2
          exact f2
        · rw [hf, List.filter_append, List.filter_cons_of_neg (p := fun c : Int32 × Int32 × Int32 × Bool => !(c.1 == id && (all || c.2.2.2))) (a := a) (by exact hk)]
          simp
      refine stp_j hJ 2 ⟨fun h2 => absurd h2 (nI_pos (by omega)), fun _ => ?_⟩
      refine stp_j hJ 6 ⟨i20, i26 (by decide), n, ix_nI (by omega) (by decide), _, r1, fun h3 => ?_, fun h3 => ?_⟩
      · refine keep ?_
        simp [h3]
      · have h3 : a.1 = id := Decidable.not_not.mp h3
        refine stp_j hJ 2 ⟨fun h4 => ?_, fun h4 => ?_⟩
        · refine drop ?_
          cases all with
          | true => simp [h3]
          | false => exact absurd rfl h4
        · have h4 : all = false := by
            cases all with
            | true => exact absurd (Decidable.not_not.mp h4) (by decide)
            | false => rfl
          refine stp_j hJ 5 ⟨i20, i27, n, ix_nI (by omega) (by decide), _, r4, fun h5 => ?_, fun h5 => ?_⟩
          · refine keep ?_
            cases hz : a.2.2.2 with
            | true => rw [hz] at h5; exact absurd h5 (by decide)
            | false => simp [h4]
          · refine drop ?_
            cases hz : a.2.2.2 with
            | true => simp [h3]
            | false => rw [hz] at h5; exact absurd rfl h5
  refine stp_j hJ 5 ⟨i20, _, h.1, _, rfl, ?_⟩
  exact loop cs.length cs [] σ rfl (by simpa using h) Fr.rf (by simp)
