/-! Timers -/
abbrev mT : Type := Int32 × Int64 × Int32 × Bool
def TmIs (σ : mS) (ts : List mT) : Prop := σ.1 11 0 4 = nI ts.length ∧ ts.length ≤ 10 ∧ ∀ (p : Nat) (t : mT), ts[p]? = some t → σ.1 12 0 p = t.1 ∧ σ.2.1 14 0 p = t.2.1 ∧ σ.1 12 1 p = t.2.2.1 ∧ σ.1 13 0 p = bI t.2.2.2
abbrev pTm : Nat → Nat → Prop := fun k _ => k = 11 ∨ k = 12 ∨ k = 13 ∨ k = 14
theorem TmIs.ch {P : Nat → Nat → Prop} {σ τ : mS} {ts : List mT} (h : TmIs σ ts) (c : Ch P σ τ) (h1 : ¬ P 11 0) (h2 : ¬ P 12 0) (h3 : ¬ P 12 1) (h4 : ¬ P 13 0) (h5 : ¬ P 14 0) : TmIs τ ts := by
  refine ⟨by rw [(c 11 0 h1).1]; exact h.1, h.2.1, fun p m hp => ?_⟩
  rw [(c 12 0 h2).1, (c 12 1 h3).1, (c 13 0 h4).1, (c 14 0 h5).2.1]
  exact h.2.2 p m hp
theorem bI01 (b : Bool) : bI b = 0 ∨ bI b = 1 := by cases b <;> simp [bI]
def idI (o : Option Nat) : Int32 := match o with
  | none => -1
  | some n => nI n
theorem c_Tm_add {σ : mS} {ts : List mT} (h : TmIs σ ts) (o : Int32) (e : Int64) (v : Int32) (l : Bool) : Meets clC yX5_add (kX5_add :: wT) rX5_add [mR 11 0, mI o, mL e, mI v, mI (bI l)] σ (fun r τ => r = none ∧ Ch pTm σ τ ∧ TmIs τ (if ts.length < 10 then ts ++ [(o, e, v, l)] else ts)) := by
  refine Meets.of SX5_add rfl (by decide) rfl (Nat.le_of_ble_eq_true rfl) ?_
  intro J hJ
  have h6 := h.2.1
  refine stp_j hJ 4 ⟨i11, _, h.1, fun h2 => ?_, fun h2 => ?_⟩
  · have : 10 ≤ ts.length := (nI_leI (a := 10) (by decide) (by omega)).mp h2
    refine stp_j hJ 1 ⟨rfl, Ch.rf, ?_⟩
    rw [if_neg (by omega)]
    exact h
  · have hl : ts.length < 10 := Nat.not_le.mp (fun z => h2 ((nI_leI (a := 10) (by decide) (by omega)).mpr z))
    refine stp_j hJ 24 ⟨i11, i11, _, h.1, i12 (by decide), _, ix_nI hl (by decide), i11, i11, _, h.1, i14, _, ix_nI hl (by decide), i11, i11, _, h.1, i12 (by decide), _, ix_nI hl (by decide), i11, i11, _, h.1, i13, _, ix_nI hl (by decide), bI01 l, ?_⟩
    refine stp_j hJ 7 ⟨i11, _, h.1, _, nI_1 ts.length, i11, rfl, Ch.andI (Ch.andI (Ch.andI (Ch.andL (Ch.oI (P := pTm) (Or.inr (Or.inl rfl))) (Or.inr (Or.inr (Or.inr rfl)))) (Or.inr (Or.inl rfl))) (Or.inr (Or.inr (Or.inl rfl)))) (Or.inl rfl), ?_⟩
    rw [if_pos hl]
    refine ⟨by simp [u3], by simp; omega, fun p m hp => ?_⟩
    by_cases hpl : p < ts.length
    · rw [List.getElem?_append_left hpl] at hp
      have hne : ¬ p = ts.length := by omega
      have := h.2.2 p m hp
      simp [u3, hne, this]
    · rw [List.getElem?_append_right (by omega)] at hp
      have hz : p - ts.length < 1 := (List.getElem?_eq_some_iff.mp hp).1
      have hpe : p = ts.length := by omega
      subst hpe
      simp at hp
      subst hp
      simp [u3]
theorem fi_cons {α : Type} (p : α → Bool) (a : α) (l : List α) (n : Nat) : (if p a = true then some n else ((l.findIdx? p).map (fun k => n + 1 + k))) = (((a :: l).findIdx? p).map (fun k => n + k)) := by
  rw [List.findIdx?_cons]
  by_cases h : p a = true
  · simp [h]
  · cases hq : l.findIdx? p with
    | none => simp [h]
    | some k =>
      simp [h]
      omega
theorem fi_0 {o : Option Nat} : o.map (fun k => 0 + k) = o := by cases o <;> simp
theorem c_Tm_firstEnding {σ : mS} {ts : List mT} (h : TmIs σ ts) (w : Int64) : Meets clC yX5_firstEnding (kX5_firstEnding :: wT) rX5_firstEnding [mR 11 0, mL w] σ (fun r τ => τ = σ ∧ r = some (mI (idI (ts.findIdx? (fun t => t.2.1 == w))))) := by
  refine Meets.of SX5_firstEnding rfl (by decide) rfl (Nat.le_of_ble_eq_true rfl) ?_
  intro J hJ
  have h8 := h.2.1
  have loop : ∀ (rest : List mT) (n : Nat), n < 2 ^ 31 → ts.drop n = rest → ts.findIdx? (fun t => t.2.1 == w) = (rest.findIdx? (fun t => t.2.1 == w)).map (fun k => n + k) → J σ 2 [(0, mR 11 0), (1, mL w), (3, mI (nI n))] [] := by
    intro rest
    induction rest with
    | nil =>
      intro n hb hn hf
      have hge : ts.length ≤ n := List.drop_eq_nil_iff.mp hn
      refine stp_j hJ 4 ⟨i11, _, h.1, fun h2 => ?_, fun h2 => ?_⟩
      · refine stp_j hJ 2 ⟨rfl, ?_⟩
        rw [hf]
        rfl
      · exact absurd (nI_le hge hb) h2
    | cons a rest ih =>
      intro n hb hn hf
      have hlt : n < ts.length := by
        have := congrArg List.length hn
        simp at this
        omega
      have hx : ts[n]? = some a := by
        have := congrArg (fun z => z[0]?) hn
        simpa using this
      obtain ⟨r1, r2, r3, r4⟩ := h.2.2 n a hx
      rw [← fi_cons] at hf
      refine stp_j hJ 4 ⟨i11, _, h.1, fun h2 => ?_, fun h2 => ?_⟩
      · exact absurd h2 (nI_ge hlt (by omega))
      · refine stp_j hJ 7 ⟨i11, i14, n, ix_nI (by omega) (by decide), _, r2, _, rfl, fun h3 => ?_, fun h3 => ?_⟩
        · have hne : ¬ a.2.1 = w := fun z => h3 (by rw [z]; simp [lg_cmp])
          refine stp_j hJ 2 ⟨_, nI_1 n, ?_⟩
          refine ih (n + 1) (by omega) ?_ ?_
          · rw [← List.drop_drop, hn]
            rfl
          · rw [hf, if_neg (by simpa using hne)]
        · have he : a.2.1 = w := by
            have h3 : lg_cmp a.2.1 w = 0 := Decidable.not_not.mp h3
            unfold lg_cmp at h3
            split at h3
            · exact absurd h3 (by decide)
            · split at h3
              · assumption
              · exact absurd h3 (by decide)
          refine stp_j hJ 2 ⟨rfl, ?_⟩
          rw [hf, if_pos (by simpa using he)]
          rfl
  exact stp_j hJ 2 (loop ts 0 (by decide) rfl fi_0.symm)
theorem c_Tm_limitOf {σ : mS} {ts : List mT} (h : TmIs σ ts) (w : Int32) : Meets clC yX5_limitOf (kX5_limitOf :: wT) rX5_limitOf [mR 11 0, mI w] σ (fun r τ => τ = σ ∧ r = some (mI (idI (ts.findIdx? (fun t => t.1 == w && t.2.2.2))))) := by
  refine Meets.of SX5_limitOf rfl (by decide) rfl (Nat.le_of_ble_eq_true rfl) ?_
  intro J hJ
  have h8 := h.2.1
  have loop : ∀ (rest : List mT) (n : Nat), n < 2 ^ 31 → ts.drop n = rest → ts.findIdx? (fun t => t.1 == w && t.2.2.2) = (rest.findIdx? (fun t => t.1 == w && t.2.2.2)).map (fun k => n + k) → J σ 2 [(0, mR 11 0), (1, mI w), (2, mI (nI n))] [] := by
    intro rest
    induction rest with
    | nil =>
      intro n hb hn hf
      have hge : ts.length ≤ n := List.drop_eq_nil_iff.mp hn
      refine stp_j hJ 4 ⟨i11, _, h.1, fun h2 => ?_, fun h2 => ?_⟩
      · refine stp_j hJ 2 ⟨rfl, ?_⟩
        rw [hf]
        rfl
      · exact absurd (nI_le hge hb) h2
    | cons a rest ih =>
      intro n hb hn hf
      have hlt : n < ts.length := by
        have := congrArg List.length hn
        simp at this
        omega
      have hx : ts[n]? = some a := by
        have := congrArg (fun z => z[0]?) hn
        simpa using this
      obtain ⟨r1, r2, r3, r4⟩ := h.2.2 n a hx
      rw [← fi_cons] at hf
      have go : ts.findIdx? (fun t => t.1 == w && t.2.2.2) = (rest.findIdx? (fun t => t.1 == w && t.2.2.2)).map (fun k => n + 1 + k) → J σ 31 [(0, mR 11 0), (1, mI w), (2, mI (nI n))] [] := by
        intro hf2
        refine stp_j hJ 2 ⟨_, nI_1 n, ?_⟩
        refine ih (n + 1) (by omega) ?_ hf2
        rw [← List.drop_drop, hn]
        rfl
      refine stp_j hJ 4 ⟨i11, _, h.1, fun h2 => ?_, fun h2 => ?_⟩
      · exact absurd h2 (nI_ge hlt (by omega))
      · refine stp_j hJ 6 ⟨i11, i12 (by decide), n, ix_nI (by omega) (by decide), _, r1, fun h3 => ?_, fun h3 => ?_⟩
        · refine go ?_
          rw [hf, if_neg (by simp [h3])]
        · have h3 : a.1 = w := Decidable.not_not.mp h3
          refine stp_j hJ 5 ⟨i11, i13, n, ix_nI (by omega) (by decide), _, r4, fun h4 => ?_, fun h4 => ?_⟩
          · have h5 : a.2.2.2 = false := by
              cases hb2 : a.2.2.2 with
              | false => rfl
              | true => rw [hb2] at h4; exact absurd h4 (by decide)
            refine go ?_
            rw [hf, if_neg (by simp [h5])]
          · have h5 : a.2.2.2 = true := by
              cases hb2 : a.2.2.2 with
              | true => rfl
              | false => rw [hb2] at h4; exact absurd rfl h4
            refine stp_j hJ 2 ⟨rfl, ?_⟩
            rw [hf, if_pos (by simp [h3, h5])]
            rfl
  exact stp_j hJ 2 (loop ts 0 (by decide) rfl fi_0.symm)
theorem eraseIdx_get {α : Type} (l : List α) (n p : Nat) : (l.eraseIdx n)[p]? = if p < n then l[p]? else l[p + 1]? := List.getElem?_eraseIdx
theorem c_Tm_removeAt {σ : mS} {ts : List mT} (h : TmIs σ ts) (k : Int32) : Meets clC yX5_removeAt (kX5_removeAt :: wT) rX5_removeAt [mR 11 0, mI k] σ (fun r τ => r = none ∧ Ch pTm σ τ ∧ TmIs τ (if k < 0 then ts else ts.eraseIdx k.toNatClampNeg)) := by
  refine Meets.of SX5_removeAt rfl (by decide) rfl (Nat.le_of_ble_eq_true rfl) ?_
  intro J hJ
  have h8 := h.2.1
  refine stp_j hJ 2 ⟨fun h1 => ?_, fun h1 => ?_⟩
  · refine stp_j hJ 1 ⟨rfl, Ch.rf, ?_⟩
    rw [if_pos h1]
    exact h
  · obtain ⟨n, hn, rfl⟩ := nI_of h1
    rw [if_neg h1, nI_clamp hn] at *
    refine stp_j hJ 4 ⟨i11, _, h.1, fun h2 => ?_, fun h2 => ?_⟩
    · have hlt : n < ts.length := (nI_ltI hn (by omega)).mp h2
      obtain ⟨L, hL⟩ : ∃ L, ts.length = L + 1 := ⟨ts.length - 1, by omega⟩
      refine stp_j hJ 8 ⟨i11, _, h.1.trans (by rw [hL]), _, nI_pred L, i11, ?_⟩
      have inner : ∀ (d k : Nat) (τ : mS), k + d = L → n ≤ k → Ch pTm σ τ → τ.1 11 0 4 = nI L → (∀ p, τ.1 12 0 p = if n ≤ p ∧ p < k then σ.1 12 0 (p + 1) else σ.1 12 0 p) → (∀ p, τ.2.1 14 0 p = if n ≤ p ∧ p < k then σ.2.1 14 0 (p + 1) else σ.2.1 14 0 p) → (∀ p, τ.1 12 1 p = if n ≤ p ∧ p < k then σ.1 12 1 (p + 1) else σ.1 12 1 p) → (∀ p, τ.1 13 0 p = if n ≤ p ∧ p < k then σ.1 13 0 (p + 1) else σ.1 13 0 p) → J τ 25 [(0, mR 11 0), (1, mI (nI n)), (2, mI (nI k))] [] := by
        intro d
        induction d with
        | zero =>
          intro k τ hk hnk c hs t1 t2 t3 t4
          have ek : k = L := by omega
          subst ek
          refine stp_j hJ 4 ⟨i11, _, hs, fun h5 => ?_, fun h5 => ?_⟩
          · refine stp_j hJ 1 ⟨rfl, c, ?_, ?_, ?_⟩
            · rw [hs, List.length_eraseIdx_of_lt hlt, hL]
              rfl
            · rw [List.length_eraseIdx_of_lt hlt]
              omega
            · intro p t hp
              rw [eraseIdx_get] at hp
              rw [t1, t2, t3, t4]
              by_cases hpn : p < n
              · rw [if_pos hpn] at hp
                rw [if_neg (by omega), if_neg (by omega), if_neg (by omega), if_neg (by omega)]
                exact h.2.2 p t hp
              · rw [if_neg hpn] at hp
                have := (List.getElem?_eq_some_iff.mp hp).1
                rw [if_pos (by omega), if_pos (by omega), if_pos (by omega), if_pos (by omega)]
                exact h.2.2 (p + 1) t hp
          · exact absurd (nI_le (Nat.le_refl k) (by omega)) h5
        | succ d ihd =>
          intro k τ hk hnk c hs t1 t2 t3 t4
          have hk1 : k + 1 < ts.length := by omega
          obtain ⟨r1, r2, r3, r4⟩ := h.2.2 (k + 1) _ (List.getElem?_eq_getElem hk1)
          have e1 : τ.1 12 0 (k + 1) = σ.1 12 0 (k + 1) := by rw [t1, if_neg (by omega)]
          have e2 : τ.2.1 14 0 (k + 1) = σ.2.1 14 0 (k + 1) := by rw [t2, if_neg (by omega)]
          have e3 : τ.1 12 1 (k + 1) = σ.1 12 1 (k + 1) := by rw [t3, if_neg (by omega)]
          have e4 : τ.1 13 0 (k + 1) = σ.1 13 0 (k + 1) := by rw [t4, if_neg (by omega)]
          have ixk : ix (nI k) 10 k := ix_nI (by omega) (by decide)
          have ixk1 : ix (nI (k + 1)) 10 (k + 1) := ix_nI (by omega) (by decide)
          refine stp_j hJ 4 ⟨i11, _, hs, fun h5 => ?_, fun h5 => ?_⟩
          · exact absurd h5 (nI_ge (by omega) (by omega))
          · refine stp_j hJ 10 ⟨i11, i11, _, nI_1 k, i12 (by decide), k + 1, ixk1, _, e1, i12 (by decide), k, ixk, ?_⟩
            refine stp_j hJ 10 ⟨i11, i11, _, nI_1 k, i14, k + 1, ixk1, _, e2, i14, k, ixk, ?_⟩
            refine stp_j hJ 10 ⟨i11, i11, _, nI_1 k, i12 (by decide), k + 1, ixk1, σ.1 12 1 (k + 1), by simp [u3, e3], i12 (by decide), k, ixk, ?_⟩
            refine stp_j hJ 10 ⟨i11, i11, _, nI_1 k, i13, k + 1, ixk1, bI (ts[k + 1]).2.2.2, ?_, i13, k, ixk, bI01 _, ?_⟩
            · simp [u3, e4, r4]
            refine stp_j hJ 2 ⟨_, nI_1 k, ?_⟩
            refine ihd (k + 1) _ (by omega) (by omega) (Ch.andI (Ch.andI (Ch.andL (Ch.andI c (Or.inr (Or.inl rfl))) (Or.inr (Or.inr (Or.inr rfl)))) (Or.inr (Or.inl rfl))) (Or.inr (Or.inr (Or.inl rfl)))) ?_ ?_ ?_ ?_ ?_
            · simp [u3, hs]
            · intro p
              by_cases hpk : p = k
              · subst hpk
                rw [if_pos (by omega)]
                simp [u3]
              · have hq : (n ≤ p ∧ p < k + 1) ↔ (n ≤ p ∧ p < k) := by omega
                simp [u3, hpk, t1, hq]
            · intro p
              by_cases hpk : p = k
              · subst hpk
                rw [if_pos (by omega)]
                simp [u3]
              · have hq : (n ≤ p ∧ p < k + 1) ↔ (n ≤ p ∧ p < k) := by omega
                simp [u3, hpk, t2, hq]
            · intro p
              by_cases hpk : p = k
              · subst hpk
                rw [if_pos (by omega)]
                simp [u3]
              · have hq : (n ≤ p ∧ p < k + 1) ↔ (n ≤ p ∧ p < k) := by omega
                simp [u3, hpk, t3, hq]
            · intro p
              by_cases hpk : p = k
              · subst hpk
                rw [if_pos (by omega)]
                simp [u3, r4]
              · have hq : (n ≤ p ∧ p < k + 1) ↔ (n ≤ p ∧ p < k) := by omega
                simp [u3, hpk, t4, hq]
      refine inner (L - n) n _ (by omega) (Nat.le_refl n) (Ch.oI (Or.inl rfl)) (by simp [u3]) (fun p => ?_) (fun p => ?_) (fun p => ?_) (fun p => ?_) <;> (rw [if_neg (by omega)]; try simp [u3])
    · have hge : ts.length ≤ n := Nat.not_lt.mp (fun z => h2 ((nI_ltI hn (by omega)).mpr z))
      refine stp_j hJ 1 ⟨rfl, Ch.rf, ?_⟩
      rw [List.eraseIdx_of_length_le hge]
      exact h
theorem c_Tm_removeAllOf {σ : mS} {ts : List mT} (h : TmIs σ ts) (o : Int32) : Meets clC yX5_removeAllOf (kX5_removeAllOf :: wT) rX5_removeAllOf [mR 11 0, mI o] σ (fun r τ => r = none ∧ Ch pTm σ τ ∧ TmIs τ (ts.filter (fun t => !(t.1 == o)))) := by
  refine Meets.of SX5_removeAllOf rfl (by decide) rfl (Nat.le_of_ble_eq_true rfl) ?_
  intro J hJ
  have h8 := h.2.1
  have loop : ∀ (n : Nat) (τ : mS), n ≤ ts.length → Ch pTm σ τ → TmIs τ (ts.take n ++ (ts.drop n).filter (fun t => !(t.1 == o))) → J τ 7 [(0, mR 11 0), (1, mI o), (2, mI (nI n - 1))] [] := by
    intro n
    induction n with
    | zero =>
      intro τ hn c ht
      refine stp_j hJ 2 ⟨fun h1 => ?_, fun h1 => ?_⟩
      · refine stp_j hJ 1 ⟨rfl, c, ?_⟩
        simpa using ht
      · exact absurd (by decide) h1
    | succ n ih =>
      intro τ hn c ht
      have hlt : n < ts.length := by omega
      have hx : ts[n]? = some ts[n] := List.getElem?_eq_getElem hlt
      have hsp : ts.take (n + 1) = ts.take n ++ [ts[n]] := by rw [List.take_succ, hx]; rfl
      have hdr : ts.drop n = ts[n] :: ts.drop (n + 1) := List.drop_eq_getElem_cons hlt
      rw [hsp] at ht
      have hlen : (ts.take n).length = n := by simp; omega
      have hx2 : (ts.take n ++ [ts[n]] ++ (ts.drop (n + 1)).filter (fun t => !(t.1 == o)))[n]? = some ts[n] := by
        rw [List.append_assoc, List.getElem?_append_right (by omega), hlen]
        simp
      obtain ⟨r1, -⟩ := ht.2.2 n _ hx2
      rw [nI_pred]
      refine stp_j hJ 2 ⟨fun h1 => ?_, fun h1 => ?_⟩
      · exact absurd h1 (nI_pos (by omega))
      · refine stp_j hJ 6 ⟨i11, i12 (by decide), n, ix_nI (by omega) (by decide), _, r1, fun h3 => ?_, fun h3 => ?_⟩
        · refine stp_j hJ 2 ⟨nI n - 1, (Int32.sub_eq_add_neg (nI n) 1).symm, ?_⟩
          refine ih τ (by omega) c ?_
          rw [hdr, List.filter_cons_of_pos (by simpa using h3)]
          rw [List.append_assoc] at ht
          exact ht
        · have h3 : (ts[n]).1 = o := Decidable.not_not.mp h3
          refine stp_j hJ 3 ⟨trivial, ⟨i11, trivial⟩, _, c_Tm_removeAt ht (nI n), ?_⟩
          rintro r υ ⟨rfl, c2, ht2⟩
          refine stp_j hJ 2 ⟨nI n - 1, (Int32.sub_eq_add_neg (nI n) 1).symm, ?_⟩
          refine ih υ (by omega) (c.tr c2 (fun _ _ z => z) (fun _ _ z => z)) ?_
          rw [if_neg (nI_pos (by omega)), nI_clamp (by omega), List.append_assoc, List.eraseIdx_append_of_length_le (by omega), hlen] at ht2
          rw [hdr, List.filter_cons_of_neg (by simp [h3])]
          simpa using ht2
  refine stp_j hJ 5 ⟨i11, _, h.1, _, rfl, ?_⟩
  refine loop ts.length σ (Nat.le_refl _) Ch.rf ?_
  simpa using h
