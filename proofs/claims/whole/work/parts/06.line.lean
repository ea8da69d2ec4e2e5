/-! Line: a row of actors -/
def LnIs (σ : mS) (j : Nat) (xs : List Nat) : Prop := σ.1 3 j 1 = nI xs.length ∧ xs.length ≤ 8 ∧ ∀ p i : Nat, xs[p]? = some i → σ.2.2 4 j p = some (5, i) ∧ i < 8
/-- nothing else has changed: what P does not name -/
def Ch (P : Nat → Nat → Prop) (σ τ : mS) : Prop := ∀ k i, ¬ P k i → τ.1 k i = σ.1 k i ∧ τ.2.1 k i = σ.2.1 k i ∧ τ.2.2 k i = σ.2.2 k i
theorem Ch.rf {P : Nat → Nat → Prop} {σ : mS} : Ch P σ σ := fun _ _ _ => ⟨rfl, rfl, rfl⟩
theorem Ch.tr {P Q S : Nat → Nat → Prop} {σ τ υ : mS} (h1 : Ch P σ τ) (h2 : Ch Q τ υ) (hp : ∀ k i, P k i → S k i) (hq : ∀ k i, Q k i → S k i) : Ch S σ υ := fun k i h => by
  obtain ⟨a1, a2, a3⟩ := h1 k i (fun z => h (hp k i z))
  obtain ⟨b1, b2, b3⟩ := h2 k i (fun z => h (hq k i z))
  exact ⟨b1.trans a1, b2.trans a2, b3.trans a3⟩
theorem Ch.mono {P Q : Nat → Nat → Prop} {σ τ : mS} (h1 : Ch P σ τ) (hp : ∀ k i, P k i → Q k i) : Ch Q σ τ := fun k i h => h1 k i (fun z => h (hp k i z))
theorem Ch.oI {P : Nat → Nat → Prop} {σ : mS} {k i p : Nat} {v : Int32} (h : P k i) : Ch P σ (sI σ k i p v) := fun a b hab => ⟨u3_r σ.1 v (fun z => hab (by rw [z.1, z.2]; exact h)), rfl, rfl⟩
theorem Ch.oL {P : Nat → Nat → Prop} {σ : mS} {k i p : Nat} {v : Int64} (h : P k i) : Ch P σ (sL σ k i p v) := fun a b hab => ⟨rfl, u3_r σ.2.1 v (fun z => hab (by rw [z.1, z.2]; exact h)), rfl⟩
theorem Ch.oR {P : Nat → Nat → Prop} {σ : mS} {k i p : Nat} {v : Option (Nat × Nat)} (h : P k i) : Ch P σ (sR σ k i p v) := fun a b hab => ⟨rfl, rfl, u3_r σ.2.2 v (fun z => hab (by rw [z.1, z.2]; exact h))⟩
theorem Ch.andI {P : Nat → Nat → Prop} {σ τ : mS} {k i p : Nat} {v : Int32} (h : Ch P σ τ) (hp : P k i) : Ch P σ (sI τ k i p v) := h.tr (Ch.oI hp) (fun _ _ z => z) (fun _ _ z => z)
theorem Ch.andL {P : Nat → Nat → Prop} {σ τ : mS} {k i p : Nat} {v : Int64} (h : Ch P σ τ) (hp : P k i) : Ch P σ (sL τ k i p v) := h.tr (Ch.oL hp) (fun _ _ z => z) (fun _ _ z => z)
theorem Ch.andR {P : Nat → Nat → Prop} {σ τ : mS} {k i p : Nat} {v : Option (Nat × Nat)} (h : Ch P σ τ) (hp : P k i) : Ch P σ (sR τ k i p v) := h.tr (Ch.oR hp) (fun _ _ z => z) (fun _ _ z => z)
theorem LnIs.ch {P : Nat → Nat → Prop} {σ τ : mS} {j : Nat} {xs : List Nat} (h : LnIs σ j xs) (c : Ch P σ τ) (h3 : ¬ P 3 j) (h4 : ¬ P 4 j) : LnIs τ j xs := by
  refine ⟨by rw [(c 3 j h3).1]; exact h.1, h.2.1, fun p i hp => ?_⟩
  rw [(c 4 j h4).2.2]
  exact h.2.2 p i hp
abbrev pLn (j : Nat) : Nat → Nat → Prop := fun k i => (k = 3 ∨ k = 4) ∧ i = j
def oA (o : Option Nat) : Option (Nat × Nat) := match o with
  | none => none
  | some i => some (5, i)
theorem c_Line_at {σ : mS} {j : Nat} {xs : List Nat} (hj : j < 4) (h : LnIs σ j xs) (k : Int32) : Meets clC yX2_at (kX2_at :: wT) rX2_at [mR 3 j, mI k] σ (fun r τ => τ = σ ∧ r = some (mO (if k < 0 then none else oA xs[k.toNatClampNeg]?))) := by
  refine Meets.of SX2_at rfl (by decide) rfl (Nat.le_of_ble_eq_true rfl) ?_
  intro J hJ
  have done : ∀ v, v = (if k < 0 then none else oA xs[k.toNatClampNeg]?) → J σ 22 [(0, mR 3 j), (1, mI k)] [mO v] := fun v hv => stp_j hJ 1 ⟨rfl, by rw [hv]⟩
  refine stp_j hJ 2 ⟨fun h1 => ?_, fun h1 => ?_⟩
  · refine stp_j hJ 2 (show J σ 22 [(0, mR 3 j), (1, mI k)] [mO none] from done _ ?_)
    rw [if_pos h1]
  · refine stp_j hJ 4 ⟨i3 hj, _, h.1, fun h2 => ?_, fun h2 => ?_⟩
    · obtain ⟨p, hp, rfl⟩ := nI_of h1
      have hlt : p < xs.length := (nI_ltI hp (by have := h.2.1; omega)).mp h2
      have hx : xs[p]? = some xs[p] := List.getElem?_eq_getElem hlt
      refine stp_j hJ 4 ⟨i3 hj, i4 hj, p, ix_nI (by have := h.2.1; omega) (by decide), _, (h.2.2 p _ hx).1, ?_⟩
      refine done _ ?_
      rw [if_neg h1, nI_clamp hp, hx]
      rfl
    · refine stp_j hJ 2 (show J σ 22 [(0, mR 3 j), (1, mI k)] [mO none] from done _ ?_)
      obtain ⟨p, hp, rfl⟩ := nI_of h1
      have hge : xs.length ≤ p := Nat.not_lt.mp (fun q => h2 ((nI_ltI hp (by have := h.2.1; omega)).mpr q))
      rw [if_neg h1, nI_clamp hp, List.getElem?_eq_none hge]
      rfl
theorem c_Line_find {σ : mS} {j : Nat} {xs : List Nat} (hj : j < 4) (h : LnIs σ j xs) (id : Int32) : Meets clC yX2_find (kX2_find :: wT) rX2_find [mR 3 j, mI id] σ (fun r τ => τ = σ ∧ r = some (mO (oA (xs.find? (fun i => σ.1 5 i 4 == id))))) := by
  refine Meets.of SX2_find rfl (by decide) rfl (Nat.le_of_ble_eq_true rfl) ?_
  intro J hJ
  have loop : ∀ (rest : List Nat) (n : Nat), n < 2 ^ 31 → xs.drop n = rest → xs.find? (fun i => σ.1 5 i 4 == id) = rest.find? (fun i => σ.1 5 i 4 == id) → J σ 2 [(0, mR 3 j), (1, mI id), (2, mI (nI n))] [] := by
    intro rest
    induction rest with
    | nil =>
      intro n hb hn hf
      have hge : xs.length ≤ n := List.drop_eq_nil_iff.mp hn
      refine stp_j hJ 4 ⟨i3 hj, _, h.1, fun h2 => ?_, fun h2 => ?_⟩
      · refine stp_j hJ 2 ⟨rfl, ?_⟩
        rw [hf]
        rfl
      · exact absurd (nI_le hge hb) h2
    | cons i rest ih =>
      intro n hb hn hf
      have hlt : n < xs.length := by
        have := congrArg List.length hn
        simp at this
        omega
      have hx : xs[n]? = some i := by
        have := congrArg (fun z => z[0]?) hn
        simpa using this
      have h8 := h.2.1
      obtain ⟨hr, hi⟩ := h.2.2 n i hx
      refine stp_j hJ 4 ⟨i3 hj, _, h.1, fun h2 => ?_, fun h2 => ?_⟩
      · exact absurd h2 (nI_ge hlt (by omega))
      · refine stp_j hJ 7 ⟨i3 hj, i4 hj, n, ix_nI (by omega) (by decide), _, hr, i5 hi, _, rfl, fun h3 => ?_, fun h3 => ?_⟩
        · refine stp_j hJ 2 ⟨_, nI_1 n, ?_⟩
          refine ih (n + 1) (by omega) ?_ ?_
          · rw [← List.drop_drop, hn]
            rfl
          · rw [hf, List.find?_cons_of_neg]
            simpa using h3
        · refine stp_j hJ 5 ⟨i3 hj, i4 hj, n, ix_nI (by omega) (by decide), _, hr, rfl, ?_⟩
          rw [hf, List.find?_cons_of_pos]
          · rfl
          · simpa using h3
  exact stp_j hJ 2 (loop xs 0 (by decide) rfl rfl)
theorem c_Line_contains {σ : mS} {j : Nat} {xs : List Nat} (hj : j < 4) (h : LnIs σ j xs) {i : Nat} (hi : i < 8) : Meets clC yX2_contains (kX2_contains :: wT) rX2_contains [mR 3 j, mR 5 i] σ (fun r τ => τ = σ ∧ r = some (mI (if i ∈ xs then 1 else 0))) := by
  refine Meets.of SX2_contains rfl (by decide) rfl (Nat.le_of_ble_eq_true rfl) ?_
  intro J hJ
  have loop : ∀ (rest : List Nat) (n : Nat), n < 2 ^ 31 → xs.drop n = rest → (i ∈ xs ↔ i ∈ rest) → J σ 2 [(0, mR 3 j), (1, mR 5 i), (2, mI (nI n))] [] := by
    intro rest
    induction rest with
    | nil =>
      intro n hb hn hf
      have hge : xs.length ≤ n := List.drop_eq_nil_iff.mp hn
      refine stp_j hJ 4 ⟨i3 hj, _, h.1, fun h2 => ?_, fun h2 => ?_⟩
      · refine stp_j hJ 2 ⟨Or.inl rfl, rfl, ?_⟩
        rw [if_neg (fun z => by simpa using hf.mp z)]
      · exact absurd (nI_le hge hb) h2
    | cons a rest ih =>
      intro n hb hn hf
      have hlt : n < xs.length := by
        have := congrArg List.length hn
        simp at this
        omega
      have hx : xs[n]? = some a := by
        have := congrArg (fun z => z[0]?) hn
        simpa using this
      have h8 := h.2.1
      obtain ⟨hr, ha⟩ := h.2.2 n a hx
      refine stp_j hJ 4 ⟨i3 hj, _, h.1, fun h2 => ?_, fun h2 => ?_⟩
      · exact absurd h2 (nI_ge hlt (by omega))
      · refine stp_j hJ 6 ⟨i3 hj, i4 hj, n, ix_nI (by omega) (by decide), _, hr, fun q e => by cases e; exact i5 ha, fun q e => by cases e; exact i5 hi, fun h3 => ?_, fun h3 => ?_⟩
        · refine stp_j hJ 2 ⟨Or.inr rfl, rfl, ?_⟩
          cases h3
          rw [if_pos (hf.mpr List.mem_cons_self)]
        · refine stp_j hJ 2 ⟨_, nI_1 n, ?_⟩
          refine ih (n + 1) (by omega) ?_ ?_
          · rw [← List.drop_drop, hn]
            rfl
          · rw [hf, List.mem_cons]
            exact ⟨fun z => z.resolve_left (fun e => h3 (by rw [e])), Or.inr⟩
  exact stp_j hJ 2 (loop xs 0 (by decide) rfl Iff.rfl)
theorem c_Line_add {cl : mC} {σ : mS} {j : Nat} {xs : List Nat} (m3 : (3, j) ∈ cl) (m4 : (4, j) ∈ cl) (h : LnIs σ j xs) {i : Nat} (m5 : (5, i) ∈ cl) (hi : i < 8) (hl : xs.length < 8) : Meets cl yX2_add (kX2_add :: wT) rX2_add [mR 3 j, mR 5 i] σ (fun r τ => r = none ∧ Ch (pLn j) σ τ ∧ LnIs τ j (xs ++ [i])) := by
  refine Meets.of SX2_add rfl (by decide) rfl (Nat.le_of_ble_eq_true rfl) ?_
  intro J hJ
  refine stp_j hJ 4 ⟨m3, _, h.1, fun h2 => ?_, fun h2 => ?_⟩
  · exact absurd h2 (nI_ge hl (by decide))
  · refine stp_j hJ 6 ⟨m3, m3, _, h.1, m4, xs.length, ix_nI hl (by decide), m5, trivial, ?_⟩
    refine stp_j hJ 7 ⟨m3, _, h.1, _, nI_1 _, m3, rfl, Ch.andI (Ch.oR (P := pLn j) ⟨Or.inr rfl, rfl⟩) ⟨Or.inl rfl, rfl⟩, ?_, ?_, ?_⟩
    · simp [u3]
    · simp
      omega
    · intro p a hp
      by_cases hpl : p < xs.length
      · rw [List.getElem?_append_left hpl] at hp
        have hne : ¬ p = xs.length := by omega
        show u3 σ.2.2 4 j xs.length (some (5, i)) 4 j p = some (5, a) ∧ a < 8
        rw [u3_n σ.2.2 _ (fun z => hne z.2.2)]
        exact h.2.2 p a hp
      · rw [List.getElem?_append_right (by omega)] at hp
        have hz : p - xs.length < 1 := (List.getElem?_eq_some_iff.mp hp).1
        have hpe : p = xs.length := by omega
        subst hpe
        simp at hp
        subst hp
        simp [u3, hi]
theorem erase_at {xs : List Nat} {n i : Nat} (hx : xs[n]? = some i) (hn : ¬ i ∈ xs.take n) : xs.erase i = xs.take n ++ xs.drop (n + 1) := by
  have hlt : n < xs.length := (List.getElem?_eq_some_iff.mp hx).1
  have e : xs = xs.take n ++ i :: xs.drop (n + 1) := by
    have h1 := List.drop_eq_getElem_cons hlt
    have h2 : xs[n] = i := by
      rw [List.getElem?_eq_getElem hlt] at hx
      exact Option.some.inj hx
    rw [h2] at h1
    rw [← h1, List.take_append_drop]
  exact (congrArg (fun l : List Nat => l.erase i) e).trans (by rw [List.erase_append_right _ hn, List.erase_cons_head])
theorem erase_get {xs : List Nat} {n i : Nat} (hx : xs[n]? = some i) (hn : ¬ i ∈ xs.take n) (p : Nat) : (xs.erase i)[p]? = if p < n then xs[p]? else xs[p + 1]? := by
  have hlt : n < xs.length := (List.getElem?_eq_some_iff.mp hx).1
  rw [erase_at hx hn]
  by_cases hp : p < n
  · rw [if_pos hp, List.getElem?_append_left (by simp; omega), List.getElem?_take_of_lt hp]
  · rw [if_neg hp, List.getElem?_append_right (by simp; omega), List.getElem?_drop]
    congr 1
    simp
    omega
theorem c_Line_remove {σ : mS} {j : Nat} {xs : List Nat} (hj : j < 4) (h : LnIs σ j xs) {i : Nat} (hi : i < 8) : Meets clC yX2_remove (kX2_remove :: wT) rX2_remove [mR 3 j, mR 5 i] σ (fun r τ => r = none ∧ Ch (pLn j) σ τ ∧ LnIs τ j (xs.erase i)) := by
  refine Meets.of SX2_remove rfl (by decide) rfl (Nat.le_of_ble_eq_true rfl) ?_
  intro J hJ
  have h8 := h.2.1
  have loop : ∀ (rest : List Nat) (n : Nat), n < 2 ^ 31 → xs.drop n = rest → ¬ i ∈ xs.take n → J σ 2 [(0, mR 3 j), (1, mR 5 i), (2, mI (nI n))] [] := by
    intro rest
    induction rest with
    | nil =>
      intro n hb hn hf
      have hge : xs.length ≤ n := List.drop_eq_nil_iff.mp hn
      refine stp_j hJ 4 ⟨i3 hj, _, h.1, fun h2 => ?_, fun h2 => ?_⟩
      · rw [List.take_of_length_le hge] at hf
        refine stp_j hJ 1 ⟨rfl, Ch.rf, ?_⟩
        rw [List.erase_of_not_mem hf]
        exact h
      · exact absurd (nI_le hge hb) h2
    | cons a rest ih =>
      intro n hb hn hf
      have hlt : n < xs.length := by
        have := congrArg List.length hn
        simp at this
        omega
      have hx : xs[n]? = some a := by
        have := congrArg (fun z => z[0]?) hn
        simpa using this
      obtain ⟨hr, ha⟩ := h.2.2 n a hx
      refine stp_j hJ 4 ⟨i3 hj, _, h.1, fun h2 => ?_, fun h2 => ?_⟩
      · exact absurd h2 (nI_ge hlt (by omega))
      · refine stp_j hJ 6 ⟨i3 hj, i4 hj, n, ix_nI (by omega) (by decide), _, hr, fun q e => by cases e; exact i5 ha, fun q e => by cases e; exact i5 hi, fun h3 => ?_, fun h3 => ?_⟩
        · cases h3
          obtain ⟨L, hL⟩ : ∃ L, xs.length = L + 1 := ⟨xs.length - 1, by omega⟩
          refine stp_j hJ 8 ⟨i3 hj, _, h.1.trans (by rw [hL]), _, nI_pred L, i3 hj, ?_⟩
          have inner : ∀ (d k : Nat) (τ : mS), k + d = L → n ≤ k → τ.1 = u3 σ.1 3 j 1 (nI L) → τ.2.1 = σ.2.1 → (∀ a b, ¬ (a = 4 ∧ b = j) → τ.2.2 a b = σ.2.2 a b) → (∀ p, τ.2.2 4 j p = if n ≤ p ∧ p < k then σ.2.2 4 j (p + 1) else σ.2.2 4 j p) → J τ 32 [(0, mR 3 j), (1, mR 5 i), (2, mI (nI n)), (3, mI (nI k))] [] := by
            intro d
            induction d with
            | zero =>
              intro k τ hk hnk t1 t2 t3 t4
              have ek : k = L := by omega
              subst ek
              have hs : τ.1 3 j 1 = nI k := by rw [t1]; exact u3_s _ _ _ _ _
              refine stp_j hJ 4 ⟨i3 hj, _, hs, fun h5 => ?_, fun h5 => ?_⟩
              · refine stp_j hJ 1 ⟨rfl, ?_, ?_, ?_, ?_⟩
                · intro a b hab
                  refine ⟨?_, by rw [t2], t3 a b (fun z => hab ⟨Or.inr z.1, z.2⟩)⟩
                  rw [t1]
                  exact u3_r σ.1 _ (fun z => hab ⟨Or.inl z.1, z.2⟩)
                · rw [hs, List.length_erase_of_mem (List.mem_of_getElem? hx), hL]
                  rfl
                · rw [List.length_erase_of_mem (List.mem_of_getElem? hx)]
                  omega
                · intro p b hp
                  rw [erase_get hx hf] at hp
                  rw [t4]
                  by_cases hpn : p < n
                  · rw [if_pos hpn] at hp
                    rw [if_neg (by omega)]
                    exact h.2.2 p b hp
                  · rw [if_neg hpn] at hp
                    have := (List.getElem?_eq_some_iff.mp hp).1
                    rw [if_pos (by omega)]
                    exact h.2.2 (p + 1) b hp
              · exact absurd (nI_le (Nat.le_refl k) (by omega)) h5
            | succ d ihd =>
              intro k τ hk hnk t1 t2 t3 t4
              have hs : τ.1 3 j 1 = nI L := by rw [t1]; exact u3_s _ _ _ _ _
              have hk1 : k + 1 < xs.length := by omega
              obtain ⟨hrk, hbk⟩ := h.2.2 (k + 1) _ (List.getElem?_eq_getElem hk1)
              have hread : τ.2.2 4 j (k + 1) = some (5, xs[k + 1]) := by
                rw [t4, if_neg (by omega)]
                exact hrk
              refine stp_j hJ 4 ⟨i3 hj, _, hs, fun h5 => ?_, fun h5 => ?_⟩
              · exact absurd h5 (nI_ge (by omega) (by omega))
              · refine stp_j hJ 10 ⟨i3 hj, i3 hj, _, nI_1 k, i4 hj, k + 1, ix_nI (by omega) (by decide), _, hread, i4 hj, k, ix_nI (by omega) (by decide), i5 hbk, trivial, ?_⟩
                refine stp_j hJ 2 ⟨_, nI_1 k, ?_⟩
                refine ihd (k + 1) _ (by omega) (by omega) t1 t2 ?_ ?_
                · intro a b hab
                  exact (u3_r τ.2.2 _ hab).trans (t3 a b hab)
                · intro p
                  by_cases hpk : p = k
                  · subst hpk
                    rw [if_pos (by omega)]
                    show u3 τ.2.2 4 j p _ 4 j p = _
                    rw [u3_s, hrk]
                  · show u3 τ.2.2 4 j k _ 4 j p = _
                    rw [u3_n _ _ (fun z => hpk z.2.2), t4]
                    by_cases hc : n ≤ p ∧ p < k
                    · rw [if_pos hc, if_pos (by omega)]
                    · rw [if_neg hc, if_neg (by omega)]
          refine inner (L - n) n _ (by omega) (Nat.le_refl n) rfl rfl (fun _ _ _ => rfl) (fun p => ?_)
          rw [if_neg (by omega)]
        · refine stp_j hJ 2 ⟨_, nI_1 n, ?_⟩
          refine ih (n + 1) (by omega) ?_ ?_
          · rw [← List.drop_drop, hn]
            rfl
          · intro hm
            rw [List.take_succ, hx] at hm
            rcases List.mem_append.mp hm with hm | hm
            · exact hf hm
            · simp at hm
              exact h3 (by rw [hm])
  exact stp_j hJ 2 (loop xs 0 (by decide) rfl (by simp))
