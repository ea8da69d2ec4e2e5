/-! The reference: message, load, spawn, inject -/
theorem i_len {l m : List Int32} (h : l.Nodup) (hs : ∀ i ∈ l, i ∈ m) : l.length ≤ m.length := by
  induction l generalizing m with
  | nil => exact Nat.zero_le _
  | cons a l ih =>
    have h1 := List.nodup_cons.mp h
    have hm : a ∈ m := hs a List.mem_cons_self
    have h2 := ih (m := m.erase a) h1.2 (fun i hi => (List.mem_erase_of_ne (fun z => h1.1 (by rw [← z]; exact hi))).mpr (hs i (List.mem_cons_of_mem _ hi)))
    have h3 := List.length_erase_of_mem hm
    have h4 : 0 < m.length := List.length_pos_of_mem hm
    simp only [List.length_cons]
    omega
theorem RRw.A8 {ρ : mS} {y : Yd} {ls es : List (Int32 × Int32)} (h : RRw ρ y ls es) (q : InvQ y) : (yA y).length ≤ 8 := by
  rw [h.1.len (pw_nd q.1)]
  have := List.length_filter_le (fun s => decide (¬ ρ.1 22 0 s = 0)) (List.range 8)
  simpa using this
theorem RRw.hq {ρ : mS} {y : Yd} {ls es : List (Int32 × Int32)} (h : RRw ρ y ls es) (q : InvQ y) : ∀ i, i ∈ yA y → yB y 1 i = true → (yQ y).length < 8 := by
  intro i hi hb
  have h1 : (i :: yQ y).length ≤ (yA y).length := i_len (List.nodup_cons.mpr ⟨(q.2.2.2 i hi).mp hb, q.2.1⟩) (fun k hk => by
    rcases List.mem_cons.mp hk with e | e
    · rw [e]; exact hi
    · exact q.2.2.1 k e)
  have := h.A8 q
  simp only [List.length_cons] at h1
  omega
theorem q_lenA {y : Yd} (q : InvQ y) : (yA y).length < 8 → (yQ y).length < 8 := fun h => Nat.lt_of_le_of_lt (i_len q.2.1 q.2.2.1) h
theorem Full.nat {y : Yd} (q : Full y) (hL : (yL y).toInt < 2147483647) : ∃ N, yL y = nI N ∧ N + 1 < 2 ^ 31 := by
  obtain ⟨N, hN, e⟩ := nI_of (Int32.not_lt.mpr q.2.2.2.2)
  refine ⟨N, e, ?_⟩
  rw [e, nI_toInt hN] at hL
  omega
theorem un_pred {k : Int32} (h : ¬ k = 0) : (k + -1).toBitVec.toNat = k.toBitVec.toNat - 1 := by
  have h1 : ¬ k.toBitVec.toNat = 0 := fun z => h (Int32.toBitVec_inj.mp (BitVec.eq_of_toNat_eq (by rw [z]; rfl)))
  have h2 := k.toBitVec.isLt
  rw [Int32.toBitVec_add, BitVec.toNat_add]
  have e : (-1 : Int32).toBitVec.toNat = 4294967295 := rfl
  rw [e]
  omega
theorem mIdx_at (id : Int32) : ∀ (ms : List (Int32 × Int32 × Int32)) (k : Int32) (n : Nat), match (ms.filter (fun m => m.1 == id))[k.toBitVec.toNat]? with
    | none => mIdx id ms k n = none
    | some m => ∃ p, mIdx id ms k n = some (n + p) ∧ ms[p]? = some m
  | [], k, n => rfl
  | a :: ms, k, n => by
    by_cases ha : a.1 = id
    · rw [List.filter_cons_of_pos (by simpa using ha), mIdx, if_pos ha]
      by_cases hk : k = 0
      · subst hk
        rw [if_pos rfl]
        exact ⟨0, rfl, rfl⟩
      · have ih := mIdx_at id ms (k + -1) (n + 1)
        rw [if_neg hk]
        have h1 : ¬ k.toBitVec.toNat = 0 := fun z => hk (Int32.toBitVec_inj.mp (BitVec.eq_of_toNat_eq (by rw [z]; rfl)))
        obtain ⟨j, hj⟩ : ∃ j, k.toBitVec.toNat = j + 1 := ⟨k.toBitVec.toNat - 1, by omega⟩
        rw [un_pred hk, hj, Nat.add_sub_cancel] at ih
        rw [hj, List.getElem?_cons_succ]
        revert ih
        cases hc : (ms.filter (fun m => m.1 == id))[j]? with
        | none => exact fun ih => ih
        | some m =>
          rintro ⟨p, e1, e2⟩
          exact ⟨p + 1, by rw [e1]; congr 1; omega, by simpa using e2⟩
    · rw [List.filter_cons_of_neg (by simpa using ha), mIdx, if_neg ha]
      have ih := mIdx_at id ms k (n + 1)
      revert ih
      cases hc : (ms.filter (fun m => m.1 == id))[k.toBitVec.toNat]? with
      | none => exact fun ih => ih
      | some m =>
        rintro ⟨p, e1, e2⟩
        exact ⟨p + 1, by rw [e1]; congr 1; omega, by simpa using e2⟩
theorem un_nn {k : Int32} (h : ¬ k < 0) : k.toBitVec.toNat = k.toNatClampNeg := by
  obtain ⟨j, hj, rfl⟩ := nI_of h
  rw [nI_clamp hj]
  show (Int32.ofNat j).toBitVec.toNat = j
  rw [Int32.toBitVec_ofNat', BitVec.toNat_ofNat]
  exact Nat.mod_eq_of_lt (by omega)
theorem un_neg {k : Int32} (h : k < 0) : 2147483648 ≤ k.toBitVec.toNat := by
  have h1 := Int32.lt_iff_toInt_lt.mp h
  have e0 : (0 : Int32).toInt = 0 := rfl
  rw [e0] at h1
  have h2 : k.toBitVec.toInt < 0 := h1
  rw [BitVec.toInt_eq_toNat_cond] at h2
  split at h2
  · omega
  · omega
theorem q_message {ρ : mS} {y : Yd} {ls es : List (Int32 × Int32)} (h : RRw ρ y ls es) (d k : Int32) : Meets clR yX7_message (kX7_message :: wT) rX7_message [mR 20 0, mI d, mI k] ρ (fun o τ => τ = ρ ∧ o = some (mI (aMessage y d k))) := by
  refine Meets.of SX7_message rfl (by decide) rfl (Nat.le_of_ble_eq_true rfl) ?_
  intro J hJ
  have h6 := h.2.2.2.2.2.1
  have h8 := h6.2.1
  refine stp_j hJ 3 ⟨trivial, ⟨i20, trivial⟩, _, r_find ρ d, ?_⟩
  rintro o τ ⟨w, rfl⟩
  have w := w.symm
  subst w
  rcases h.1.fd d with ⟨s, hs, e, hi, hA, hp⟩ | ⟨e, hA⟩
  · rw [e]
    refine stp_j hJ 1 ⟨fun _ => ?_, fun h2 => absurd (nI_pos' (by omega)) h2⟩
    refine stp_j hJ 4 ⟨trivial, ⟨i20, trivial⟩, _, r_mailAt h6 d k, ?_⟩
    rintro o τ ⟨w, rfl⟩
    have w := w.symm
    subst w
    have hm := mIdx_at d (yM y) k 0
    have hml : (mbx y d).length ≤ (yM y).length := List.length_filter_le _ _
    have key : aMessage y d k = (match ((yM y).filter (fun m => m.1 == d))[k.toBitVec.toNat]? with
        | none => 0
        | some m => m.2.2) := by
      rw [aMessage, if_pos hA, mAt]
      by_cases hk : k < 0
      · rw [if_pos hk]
        have := un_neg hk
        rw [List.getElem?_eq_none (by have : ((yM y).filter (fun m => m.1 == d)).length ≤ (yM y).length := hml; omega)]
      · rw [if_neg hk, un_nn hk, List.getElem?_map]
        unfold mbx
        cases ((yM y).filter (fun m => m.1 == d))[k.toNatClampNeg]? <;> rfl
    revert hm
    cases hc : ((yM y).filter (fun m => m.1 == d))[k.toBitVec.toNat]? with
    | none =>
      intro hm
      have hm : mIdx d (yM y) k 0 = none := hm
      rw [hm]
      refine stp_j hJ 3 ⟨fun h2 => absurd h2 (by decide), fun _ => ?_⟩
      exact stp_j hJ 3 ⟨rfl, by rw [key, hc]⟩
    | some m =>
      rintro ⟨p, e1, e2⟩
      rw [e1, Nat.zero_add]
      have hpl : p < (yM y).length := (List.getElem?_eq_some_iff.mp e2).1
      refine stp_j hJ 3 ⟨fun _ => ?_, fun h2 => absurd (nI_pos' (by omega)) h2⟩
      exact stp_j hJ 5 ⟨i20, i25 (by decide), p, ix_nI (by omega) (by decide), _, (h6.2.2 p m e2).2.2, rfl, by rw [key, hc]⟩
  · rw [e]
    refine stp_j hJ 1 ⟨fun h2 => absurd h2 (by decide), fun _ => ?_⟩
    refine stp_j hJ 5 ⟨fun h2 => absurd h2 (by decide), fun _ => ?_⟩
    refine stp_j hJ 3 ⟨rfl, ?_⟩
    rw [aMessage, if_neg hA]
theorem q_spawn {ρ : mS} {y : Yd} {ls es : List (Int32 × Int32)} (h : RRw ρ y ls es) (q : Full y) (hL : (yL y).toInt < 2147483647) (et ar : Int32) : Meets clR yX7_spawn (kX7_spawn :: wT) rX7_spawn [mR 20 0, mI et, mI ar] ρ (fun r τ => r = some (mI (ySpawnP y et ar).2) ∧ RRw τ (ySpawnP y et ar).1 ls es) := by
  refine Meets.of SX7_spawn rfl (by decide) rfl (Nat.le_of_ble_eq_true rfl) ?_
  intro J hJ
  obtain ⟨N, hN, hN2⟩ := q.nat hL
  have h47 : et ≤ 47 ↔ et < 48 := by
    rw [Int32.le_iff_toInt_le, Int32.lt_iff_toInt_lt]
    have e1 : (47 : Int32).toInt = 47 := rfl
    have e2 : (48 : Int32).toInt = 48 := rfl
    omega
  refine stp_j hJ 4 ⟨trivial, rfl, _, r_within ρ et 0 47, ?_⟩
  rintro o τ ⟨w, hw⟩
  have w := w.symm
  subst w
  rcases hw with ⟨rfl, hw⟩ | ⟨rfl, hw⟩
  · refine stp_j hJ 1 ⟨fun _ => ?_, fun h2 => absurd (by decide) h2⟩
    rw [h47] at hw
    refine stp_j hJ 5 ⟨trivial, ⟨i20, trivial⟩, _, R_begin h hN hN2 (fun i hi => (q.1.2.2.2.2.2.2.1 i hi).2) (pw_nd q.1.1.1) (q_lenA q.1.1) et ar 0, ?_⟩
    rintro o τ ⟨rfl, hr, _⟩
    have e : ySpawnP y et ar = if (yA y).length < 8 then (yNew y et ar 0, yL y + 1) else (y, -2) := by rw [ySpawnP, if_pos hw]
    rw [yBegin] at hr ⊢
    by_cases h8 : (yA y).length < 8
    · rw [if_pos h8] at hr e ⊢
      have hne : ¬ yL y + 1 = 0 := by
        rw [hN, nI_1]
        intro z
        have := (nI_eq (a := N + 1) (b := 0) hN2 (by decide)).mp z
        omega
      refine stp_j hJ 3 ⟨fun _ => ?_, fun h2 => absurd hne h2⟩
      refine stp_j hJ 2 ⟨?_, ?_⟩
      · rw [e]; rfl
      · rw [e]; exact hr
    · rw [if_neg h8] at hr e ⊢
      refine stp_j hJ 3 ⟨fun h2 => absurd rfl h2, fun _ => ?_⟩
      refine stp_j hJ 3 ⟨?_, ?_⟩
      · rw [e]
      · rw [e]; exact hr
  · refine stp_j hJ 1 ⟨fun h2 => absurd rfl h2, fun _ => ?_⟩
    rw [h47] at hw
    refine stp_j hJ 2 ⟨?_, ?_⟩
    · rw [ySpawnP, if_neg hw]
    · rw [ySpawnP, if_neg hw]; exact h
theorem q_inject {ρ : mS} {y : Yd} {ls es : List (Int32 × Int32)} (h : RRw ρ y ls es) (q : Full y) (d v : Int32) : Meets clR yX7_inject (kX7_inject :: wT) rX7_inject [mR 20 0, mI d, mI v] ρ (fun r τ => r = some (mI (yInject y d v).2) ∧ RRw τ (yInject y d v).1 ls es) := by
  refine Meets.of SX7_inject rfl (by decide) rfl (Nat.le_of_ble_eq_true rfl) ?_
  intro J hJ
  refine stp_j hJ 3 ⟨trivial, ⟨i20, trivial⟩, _, r_find ρ d, ?_⟩
  rintro o τ ⟨w, rfl⟩
  have w := w.symm
  subst w
  rcases h.1.fd d with ⟨s, hs, e, hi, hA, hp⟩ | ⟨e, hA⟩
  · rw [e]
    refine stp_j hJ 1 ⟨fun _ => ?_, fun h2 => absurd (nI_pos' (by omega)) h2⟩
    refine stp_j hJ 2 ⟨trivial, ⟨i20, trivial⟩, _, R_freeCells h, ?_⟩
    rintro o τ ⟨w, rfl⟩
    have w := w.symm
    subst w
    have h12 := h.2.2.2.2.2.2.2.2.2.2.2
    by_cases hR : yR y = 0
    · refine stp_j hJ 1 ⟨fun h2 => absurd (by rw [hR]; rfl) h2, fun _ => ?_⟩
      refine stp_j hJ 2 ⟨?_, ?_⟩
      · rw [yInject, if_pos hA, if_pos hR]
      · rw [yInject, if_pos hA, if_pos hR]; exact h
    · have hne : ¬ nI (yR y) = 0 := fun z => hR ((nI_eq (a := yR y) (b := 0) (by omega) (by decide)).mp z)
      refine stp_j hJ 1 ⟨fun _ => ?_, fun h2 => absurd hne h2⟩
      refine stp_j hJ 5 ⟨trivial, ⟨i20, trivial⟩, _, R_post h (h.hq q.1.1) d 0 v, ?_⟩
      rintro o τ ⟨w, hr, _⟩
      subst w
      rw [if_pos hA] at hr
      refine stp_j hJ 2 ⟨?_, ?_⟩
      · rw [yInject, if_pos hA, if_neg hR]
      · rw [yInject, if_pos hA, if_neg hR]; exact hr
  · rw [e]
    refine stp_j hJ 1 ⟨fun h2 => absurd h2 (by decide), fun _ => ?_⟩
    refine stp_j hJ 2 ⟨?_, ?_⟩
    · rw [yInject, if_neg hA]
    · rw [yInject, if_neg hA]; exact h
theorem R_cd {ρ : mS} {y : Yd} {ls es : List (Int32 × Int32)} (h : RRw ρ y ls es) {c : Nat} (hc : c < 48) (op a b : Int32) : RRw (sI (sI (sI ρ 21 0 c (op + 1)) 21 1 c a) 21 2 c b) (yLoad y (nI c) op a b) ls es := by
  have f : Fr (fun k _ _ => k = 21) ρ (sI (sI (sI ρ 21 0 c (op + 1)) 21 1 c a) 21 2 c b) := ((Fr.oI rfl).andI rfl).andI rfl
  obtain ⟨h1, h2, h3, h4, h5, h6, h7, h8, h9, h10, h11, h12⟩ := h
  have ew : (sI (sI (sI ρ 21 0 c (op + 1)) 21 1 c a) 21 2 c b).1 22 0 = ρ.1 22 0 := by
    funext p
    exact f.1 22 0 p (by simp)
  refine ⟨by rw [ew]; exact h1, ?_, ?_, ⟨?_, ?_, ?_⟩, h5.fr f ?_, h6.fr f ?_, h7.fr f ?_, h8, h9.fr f ?_, h10.fr f ?_, h11.fr f ?_, h12⟩
  · intro s hs h0
    rw [ew] at h0 ⊢
    exact (h2 s hs h0).cg (fun k _ _ => f.1 22 k s (by simp)) (fun k _ => f.1 23 k s (by simp)) (fun r _ => f.1 24 0 _ (by simp)) (fun r _ => f.1 25 0 _ (by simp)) (fun _ => rfl) (fun _ => rfl) rfl (Nat.le_refl _)
  · intro p hp
    have h3 := h3 p hp
    have e : (nI c).toNatClampNeg = c := nI_clamp (by omega)
    by_cases hz : p = c
    · subst hz
      simp [u3, yLoad, yCvC, e]
    · simp [u3, yLoad, yCvC, e, hz, h3]
  · rw [f.1 20 0 3 (by simp)]; exact h4.1
  · rw [f.1 20 0 17 (by simp)]; exact h4.2.1
  · rw [f.1 20 0 25 (by simp)]; exact h4.2.2
  · intro k i p z; simp only [qRo] at z ⊢; omega
  · intro k i p z; simp only [qMl] at z ⊢; omega
  · intro k i p z; simp only [qLk] at z ⊢; omega
  · intro k i p z; simp only [qCk] at z ⊢; omega
  · intro k i p z; simp only [qOu] at z ⊢; omega
  · intro k i p z; simp only [qEn] at z ⊢; omega
theorem le_lt {x : Int32} (n : Nat) (hn : n + 1 < 2 ^ 31) : x ≤ nI n ↔ x < nI (n + 1) := by
  rw [Int32.le_iff_toInt_le, Int32.lt_iff_toInt_lt, nI_toInt (by omega), nI_toInt hn]
  omega
theorem q_load {ρ : mS} {y : Yd} {ls es : List (Int32 × Int32)} (h : RRw ρ y ls es) (c op a b : Int32) : Meets clR yX7_load (kX7_load :: wT) rX7_load [mR 20 0, mI c, mI op, mI a, mI b] ρ (fun r τ => yes (0 ≤ c ∧ c < 48 ∧ insOk op a b) r ∧ ((0 ≤ c ∧ c < 48 ∧ insOk op a b) → RRw τ (yLoad y c op a b) ls es) ∧ (¬ (0 ≤ c ∧ c < 48 ∧ insOk op a b) → RRw τ y ls es)) := by
  refine Meets.of SX7_load rfl (by decide) rfl (Nat.le_of_ble_eq_true rfl) ?_
  intro J hJ
  have l48 : ∀ x : Int32, x ≤ 47 ↔ x < 48 := fun x => le_lt 47 (by decide)
  have l4 : ∀ x : Int32, x ≤ 3 ↔ x < 4 := fun x => le_lt 3 (by decide)
  have no1 : ¬ (0 ≤ c ∧ c < 48 ∧ insOk op a b) → J ρ 40 [(0, mR 20 0), (1, mI c), (2, mI op), (3, mI a), (4, mI b)] [] := fun hn => stp_j hJ 2 ⟨Or.inl rfl, Or.inr ⟨rfl, hn⟩, fun z => absurd z hn, fun _ => h⟩
  have no2 : ¬ (0 ≤ c ∧ c < 48 ∧ insOk op a b) → J ρ 107 [(0, mR 20 0), (1, mI c), (2, mI op), (3, mI a), (4, mI b)] [] := fun hn => stp_j hJ 2 ⟨Or.inl rfl, Or.inr ⟨rfl, hn⟩, fun z => absurd z hn, fun _ => h⟩
  have s109 : (0 ≤ c ∧ c < 48 ∧ insOk op a b) → J ρ 109 [(0, mR 20 0), (1, mI c), (2, mI op), (3, mI a), (4, mI b)] [] := by
    intro hy
    obtain ⟨n, hn, rfl⟩ := nI_of (Int32.not_lt.mpr hy.1)
    have hlt : n < 48 := (nI_ltI (a := n) (b := 48) hn (by decide)).mp hy.2.1
    refine stp_j hJ 7 ⟨i20, _, rfl, i21 (by decide), n, ix_nI hlt (by decide), ?_⟩
    refine stp_j hJ 10 ⟨i20, i21 (by decide), n, ix_nI hlt (by decide), i20, i21 (by decide), n, ix_nI hlt (by decide), ?_⟩
    exact stp_j hJ 2 ⟨Or.inr rfl, Or.inl ⟨rfl, hy⟩, fun _ => R_cd h hlt op a b, fun z => absurd hy z⟩
  have s95 : (0 ≤ c ∧ c < 48) → (0 ≤ op ∧ op ≤ 13) → (op = 3 ∨ op = 9 ∨ (0 ≤ a ∧ a < 4)) → ((op = 1 ∨ op = 2 ∨ op = 4) → 0 ≤ b ∧ b < 4) → ((op = 3 ∨ op = 6 ∨ op = 7) → 0 ≤ b ∧ b < 48) → J ρ 95 [(0, mR 20 0), (1, mI c), (2, mI op), (3, mI a), (4, mI b)] [] := by
    intro c1 c2 c3 c4 c5
    refine stp_j hJ 3 ⟨fun h1 => s109 ⟨c1.1, c1.2, c2.1, c2.2, c3, c4, c5, fun z => absurd z h1⟩, fun h1 => ?_⟩
    refine stp_j hJ 3 ⟨fun h2 => s109 ⟨c1.1, c1.2, c2.1, c2.2, c3, c4, c5, fun _ => h2⟩, fun h2 => no2 (fun z => h2 (z.2.2.2.2.2.2.2 (Decidable.not_not.mp h1)))⟩
  have s84 : (0 ≤ c ∧ c < 48) → (0 ≤ op ∧ op ≤ 13) → (op = 3 ∨ op = 9 ∨ (0 ≤ a ∧ a < 4)) → ((op = 1 ∨ op = 2 ∨ op = 4) → 0 ≤ b ∧ b < 4) → (op = 3 ∨ op = 6 ∨ op = 7) → J ρ 84 [(0, mR 20 0), (1, mI c), (2, mI op), (3, mI a), (4, mI b)] [] := by
    intro c1 c2 c3 c4 c5
    refine stp_j hJ 4 ⟨trivial, rfl, _, r_within ρ b 0 47, ?_⟩
    rintro o τ ⟨w, hw⟩
    have w := w.symm
    subst w
    rw [l48] at hw
    rcases hw with ⟨rfl, hw⟩ | ⟨rfl, hw⟩
    · exact stp_j hJ 1 ⟨fun h2 => absurd h2 (by decide), fun _ => s95 c1 c2 c3 c4 (fun _ => hw)⟩
    · exact stp_j hJ 1 ⟨fun _ => no2 (fun z => hw (z.2.2.2.2.2.2.1 c5)), fun h2 => absurd rfl h2⟩
  have s67 : (0 ≤ c ∧ c < 48) → (0 ≤ op ∧ op ≤ 13) → (op = 3 ∨ op = 9 ∨ (0 ≤ a ∧ a < 4)) → ((op = 1 ∨ op = 2 ∨ op = 4) → 0 ≤ b ∧ b < 4) → J ρ 67 [(0, mR 20 0), (1, mI c), (2, mI op), (3, mI a), (4, mI b)] [] := by
    intro c1 c2 c3 c4
    refine stp_j hJ 3 ⟨fun h1 => s84 c1 c2 c3 c4 (Or.inl h1), fun h1 => ?_⟩
    refine stp_j hJ 3 ⟨fun h2 => s84 c1 c2 c3 c4 (Or.inr (Or.inl h2)), fun h2 => ?_⟩
    exact stp_j hJ 3 ⟨fun h3 => s95 c1 c2 c3 c4 (fun z => by rcases z with z | z | z; exact absurd z h1; exact absurd z h2; exact absurd z h3), fun h3 => s84 c1 c2 c3 c4 (Or.inr (Or.inr (Decidable.not_not.mp h3)))⟩
  have s57 : (0 ≤ c ∧ c < 48) → (0 ≤ op ∧ op ≤ 13) → (op = 3 ∨ op = 9 ∨ (0 ≤ a ∧ a < 4)) → (op = 1 ∨ op = 2 ∨ op = 4) → J ρ 57 [(0, mR 20 0), (1, mI c), (2, mI op), (3, mI a), (4, mI b)] [] := by
    intro c1 c2 c3 c4
    refine stp_j hJ 4 ⟨trivial, rfl, _, r_within ρ b 0 3, ?_⟩
    rintro o τ ⟨w, hw⟩
    have w := w.symm
    subst w
    rw [l4] at hw
    rcases hw with ⟨rfl, hw⟩ | ⟨rfl, hw⟩
    · exact stp_j hJ 1 ⟨fun h2 => absurd h2 (by decide), fun _ => s67 c1 c2 c3 (fun _ => hw)⟩
    · exact stp_j hJ 1 ⟨fun _ => no2 (fun z => hw (z.2.2.2.2.2.1 c4)), fun h2 => absurd rfl h2⟩
  have s42 : (0 ≤ c ∧ c < 48) → (0 ≤ op ∧ op ≤ 13) → (op = 3 ∨ op = 9 ∨ (0 ≤ a ∧ a < 4)) → J ρ 42 [(0, mR 20 0), (1, mI c), (2, mI op), (3, mI a), (4, mI b)] [] := by
    intro c1 c2 c3
    refine stp_j hJ 3 ⟨fun h1 => s57 c1 c2 c3 (Or.inl h1), fun h1 => ?_⟩
    refine stp_j hJ 3 ⟨fun h2 => s57 c1 c2 c3 (Or.inr (Or.inl h2)), fun h2 => ?_⟩
    exact stp_j hJ 3 ⟨fun h3 => s67 c1 c2 c3 (fun z => by rcases z with z | z | z; exact absurd z h1; exact absurd z h2; exact absurd z h3), fun h3 => s57 c1 c2 c3 (Or.inr (Or.inr (Decidable.not_not.mp h3)))⟩
  refine stp_j hJ 4 ⟨trivial, rfl, _, r_within ρ c 0 47, ?_⟩
  rintro o τ ⟨w, hw⟩
  have w := w.symm
  subst w
  rw [l48] at hw
  rcases hw with ⟨rfl, hw⟩ | ⟨rfl, hw⟩
  · refine stp_j hJ 1 ⟨fun h2 => absurd h2 (by decide), fun _ => ?_⟩
    refine stp_j hJ 4 ⟨trivial, rfl, _, r_within ρ op 0 13, ?_⟩
    rintro o τ ⟨w, hw2⟩
    have w := w.symm
    subst w
    rcases hw2 with ⟨rfl, hw2⟩ | ⟨rfl, hw2⟩
    · refine stp_j hJ 1 ⟨fun h2 => absurd h2 (by decide), fun _ => ?_⟩
      refine stp_j hJ 3 ⟨fun h1 => s42 hw hw2 (Or.inl h1), fun h1 => ?_⟩
      refine stp_j hJ 3 ⟨fun h2 => s42 hw hw2 (Or.inr (Or.inl h2)), fun h2 => ?_⟩
      refine stp_j hJ 4 ⟨trivial, rfl, _, r_within ρ a 0 3, ?_⟩
      rintro o τ ⟨w, hw3⟩
      have w := w.symm
      subst w
      rw [l4] at hw3
      rcases hw3 with ⟨rfl, hw3⟩ | ⟨rfl, hw3⟩
      · exact stp_j hJ 1 ⟨fun _ => s42 hw hw2 (Or.inr (Or.inr hw3)), fun h2 => absurd (by decide) h2⟩
      · exact stp_j hJ 1 ⟨fun h2 => absurd rfl h2, fun _ => no1 (fun z => by rcases z.2.2.2.2.1 with z | z | z; exact h1 z; exact h2 z; exact hw3 z)⟩
    · exact stp_j hJ 1 ⟨fun _ => no1 (fun z => hw2 ⟨z.2.2.1, z.2.2.2.1⟩), fun h2 => absurd rfl h2⟩
  · exact stp_j hJ 1 ⟨fun _ => no1 (fun z => hw ⟨z.1, z.2.1⟩), fun h2 => absurd rfl h2⟩
