/-! The reference: run, tick -/
theorem step_pos {y : Yd} (q : Full y) (h : ¬ (yStep y).2 = 0) : ¬ (yStep y).2 ≤ 0 := by
  unfold yStep at h ⊢
  split
  · rename_i hq
    rw [hq] at h
    exact absurd rfl h
  · rename_i i l hq
    have hA : i ∈ yA y := q.1.1.2.2.1 i (fst_q hq)
    exact Int32.not_le.mpr (q.1.2.2.2.2.2.2.1 i hA).1
theorem q_run {ρ : mS} {y : Yd} {ls : List (Int32 × Int32)} (h : RRw ρ y ls []) (a : AllI y) (hL : (yL y).toInt + 41100 < 2147483647) (hN : yN y < 2 ^ 31) (hE : yE y = []) (n : Int32) : Meets clR yX7_run (kX7_run :: wT) rX7_run [mR 20 0, mI n] ρ (fun o τ => o = some (mI (if n < 0 ∨ 40 < n then (y, -1) else yRun n.toNatClampNeg y 0).2) ∧ ∃ ls', RRw τ (if n < 0 ∨ 40 < n then (y, -1) else yRun n.toNatClampNeg y 0).1 ls' [] ∧ yE (if n < 0 ∨ 40 < n then (y, -1) else yRun n.toNatClampNeg y 0).1 = []) := by
  refine Meets.of SX7_run rfl (by decide) rfl (Nat.le_of_ble_eq_true rfl) ?_
  intro J hJ
  refine stp_j hJ 4 ⟨trivial, rfl, _, r_within ρ n 0 40, ?_⟩
  rintro o τ ⟨w, hw⟩
  have w := w.symm
  subst w
  rcases hw with ⟨rfl, hw⟩ | ⟨rfl, hw⟩
  · have hno : ¬ (n < 0 ∨ 40 < n) := fun z => z.elim (fun z => absurd hw.1 (Int32.not_le.mpr z)) (fun z => absurd hw.2 (Int32.not_le.mpr z))
    obtain ⟨N, hN31, rfl⟩ := nI_of (Int32.not_lt.mpr hw.1)
    have hN40 : N ≤ 40 := Nat.not_lt.mp (fun z => absurd hw.2 (nI_ge (a := 40) (b := N) z hN31))
    refine stp_j hJ 1 ⟨fun _ => ?_, fun h2 => absurd (by decide) h2⟩
    rw [if_neg hno, nI_clamp hN31] at hJ
    have loop : ∀ (m k : Nat) (ρ' : mS) (y' : Yd) (ls' : List (Int32 × Int32)), k + m = N → RRw ρ' y' ls' [] → AllI y' → (yL y').toInt + 1001 * m + 1002 < 2147483647 → yN y' = yN y → yE y' = [] → yRun m y' (nI k) = yRun N y 0 → J ρ' 14 [(0, mR 20 0), (1, mI (nI N)), (2, mI (nI k))] [] := by
      intro m
      induction m with
      | zero =>
        intro k ρ' y' ls' hk h' a' hl hn he hr
        have hk : k = N := by omega
        subst hk
        refine stp_j hJ 3 ⟨fun _ => ?_, fun h2 => absurd (nI_le (Nat.le_refl k) hN31) h2⟩
        have hr : (y', nI k) = yRun k y 0 := hr
        refine stp_j hJ 2 ⟨?_, ls', ?_, ?_⟩
        · rw [← hr]
        · rw [← hr]; exact h'
        · rw [← hr]; exact he
      | succ m ih =>
        intro k ρ' y' ls' hk h' a' hl hn he hr
        refine stp_j hJ 3 ⟨fun h2 => absurd h2 (nI_ge (a := k) (b := N) (by omega) hN31), fun _ => ?_⟩
        obtain ⟨s1, s2, s3⟩ := a'.step (by omega)
        refine stp_j hJ 2 ⟨trivial, ⟨i20, trivial⟩, _, R_step h' a'.1 a'.2.1 (by omega) (by rw [hn]; exact hN) a'.2.2.2.2 a'.2.2.1 he, ?_⟩
        rintro o τ ⟨rfl, ls2, g1, g2⟩
        rw [yRun] at hr
        by_cases hz : (yStep y').2 = 0
        · rw [if_pos hz] at hr
          refine stp_j hJ 1 ⟨fun _ => ?_, fun h2 => absurd (by rw [hz]; decide) h2⟩
          refine stp_j hJ 2 ⟨?_, ls2, ?_, ?_⟩
          · rw [← hr]
          · rw [← hr]; exact g1
          · rw [← hr]; exact g2
        · rw [if_neg hz] at hr
          refine stp_j hJ 1 ⟨fun h2 => absurd h2 (step_pos a'.1 hz), fun _ => ?_⟩
          rw [nI_1] at hr
          exact stp_j hJ 2 ⟨_, nI_1 k, ih (k + 1) τ (yStep y').1 ls2 (by omega) g1 s1 (by omega) (s2.trans hn) g2 hr⟩
    exact stp_j hJ 2 (loop N 0 ρ y ls (by omega) h a (by omega) rfl hE rfl)
  · have hyes : n < 0 ∨ 40 < n := by
      by_cases h1 : 0 ≤ n
      · exact Or.inr (Int32.not_le.mp (fun z => hw ⟨h1, z⟩))
      · exact Or.inl (Int32.not_le.mp h1)
    rw [if_pos hyes] at hJ
    refine stp_j hJ 1 ⟨fun h2 => absurd rfl h2, fun _ => ?_⟩
    exact stp_j hJ 2 ⟨rfl, ls, h, hE⟩
theorem RRw.now {ρ : mS} {y : Yd} {ls es : List (Int32 × Int32)} (h : RRw ρ y ls es) (m : Nat) : RRw (sI ρ 20 0 17 (nI m)) (vN y m) ls es := by
  have f : Fr (fun k i p => k = 20 ∧ p = 17) ρ (sI ρ 20 0 17 (nI m)) := Fr.oI ⟨rfl, rfl⟩
  obtain ⟨h1, h2, h3, h4, h5, h6, h7, h8, h9, h10, h11, h12⟩ := h
  have ew : (sI ρ 20 0 17 (nI m)).1 22 0 = ρ.1 22 0 := by
    funext p
    exact f.1 22 0 p (by simp)
  refine ⟨by rw [ew]; exact h1, ?_, ?_, ⟨?_, ?_, ?_⟩, h5.fr f ?_, h6.fr f ?_, h7.fr f ?_, h8, h9.fr f ?_, h10.fr f ?_, h11.fr f ?_, h12⟩
  · intro s hs h0
    rw [ew] at h0 ⊢
    exact (h2 s hs h0).cg (fun k _ _ => f.1 22 k s (by simp)) (fun k _ => f.1 23 k s (by simp)) (fun r _ => f.1 24 0 _ (by simp)) (fun r _ => f.1 25 0 _ (by simp)) (fun _ => rfl) (fun _ => rfl) rfl (Nat.le_refl _)
  · intro c hc
    rw [f.1 21 0 c (by simp), f.1 21 1 c (by simp), f.1 21 2 c (by simp)]
    exact h3 c hc
  · rw [f.1 20 0 3 (by simp)]; exact h4.1
  · simp [u3, yNvN]
  · rw [f.1 20 0 25 (by simp)]; exact h4.2.2
  · intro k i p z; simp only [qRo] at z ⊢; omega
  · intro k i p z; simp only [qMl] at z ⊢; omega
  · intro k i p z; simp only [qLk] at z ⊢; omega
  · intro k i p z; simp only [qCk] at z ⊢; omega
  · intro k i p z; simp only [qOu] at z ⊢; omega
  · intro k i p z; simp only [qEn] at z ⊢; omega
theorem fi_cg {α : Type} {p q : α → Bool} : ∀ {l : List α}, (∀ a ∈ l, p a = q a) → l.findIdx? p = l.findIdx? q
  | [], _ => rfl
  | a :: l, h => by
    rw [List.findIdx?_cons, List.findIdx?_cons, h a List.mem_cons_self, fi_cg (fun b hb => h b (List.mem_cons_of_mem _ hb))]
theorem ofI_eq {z : Int} {n : Nat} (hn : n < 2 ^ 31) (h1 : (n : Int) ≤ z) (h2 : z ≤ (n : Int) + 2147483647) : Int32.ofInt z = nI n ↔ z = (n : Int) := by
  refine ⟨fun e => ?_, fun e => by rw [e]; rfl⟩
  have e2 := congrArg Int32.toInt e
  rw [nI_toInt hn, Int32.toInt_ofInt] at e2
  have h3 := Int.bmod_def z (2 ^ 32)
  have e3 : (z.bmod Int32.size) = z.bmod (2 ^ 32) := rfl
  rw [e3, h3] at e2
  split at e2 <;> omega
theorem due_eq {y : Yd} (m : TmW y) (hN : yN y < 2 ^ 31) : ((yT y).map ckI).findIdx? (fun c => c.2.1 == nI (yN y)) = (yT y).findIdx? (fun t => t.2.1 == (yN y : Int)) := by
  rw [List.findIdx?_map]
  refine fi_cg (fun t ht => ?_)
  obtain ⟨h1, h2⟩ := m t ht
  have h3 := ofI_eq hN h1 h2
  show (Int32.ofInt t.2.1 == nI (yN y)) = (t.2.1 == (yN y : Int))
  by_cases hz : t.2.1 = (yN y : Int)
  · rw [beq_iff_eq.mpr (h3.mpr hz), beq_iff_eq.mpr hz]
  · rw [beq_eq_false_iff_ne.mpr (fun w => hz (h3.mp w)), beq_eq_false_iff_ne.mpr hz]
theorem q_tick {ρ : mS} {y : Yd} {ls : List (Int32 × Int32)} (h : RRw ρ y ls []) (a : AllI y) (hN : yN y + 1 < 2 ^ 31) : Meets clR yX7_tick (kX7_tick :: wT) rX7_tick [mR 20 0] ρ (fun o τ => o = some (mI (yTicks 10 (vN y (yN y + 1)) 0).2) ∧ RRw τ (yTicks 10 (vN y (yN y + 1)) 0).1 ls []) := by
  refine Meets.of SX7_tick rfl (by decide) rfl (Nat.le_of_ble_eq_true rfl) ?_
  intro J hJ
  have loop : ∀ (m n : Nat) (ρ' : mS) (y' : Yd), RRw ρ' y' ls [] → AllW y' → (yT y').length ≤ m → yN y' < 2 ^ 31 → yTicks m y' (nI n) = yTicks 10 (vN y (yN y + 1)) 0 → J ρ' 17 [(0, mR 20 0), (1, mI (nI n)), (2, mI (idI ((yT y').findIdx? (fun t => t.2.1 == (yN y' : Int)))))] [] := by
    intro m
    induction m with
    | zero =>
      intro n ρ' y' h' a' hm hn hr
      have hnil : yT y' = [] := List.eq_nil_of_length_eq_zero (Nat.le_zero.mp hm)
      rw [hnil]
      refine stp_j hJ 2 ⟨fun _ => ?_, fun h2 => absurd (show (-1 : Int32) < 0 by decide) h2⟩
      have hr : (y', nI n) = yTicks 10 (vN y (yN y + 1)) 0 := hr
      refine stp_j hJ 2 ⟨?_, ?_⟩
      · rw [← hr]
      · rw [← hr]; exact h'
    | succ m ih =>
      intro n ρ' y' h' a' hm hn hr
      obtain ⟨f1, f2⟩ := find_idx (fun t : Int32 × Int × Int32 × Bool => t.2.1 == (yN y' : Int)) (yT y')
      conv at hr => lhs; unfold yTicks
      cases hf : (yT y').findIdx? (fun t : Int32 × Int × Int32 × Bool => t.2.1 == (yN y' : Int)) with
      | none =>
        rw [f1 hf] at hr
        have hr : (y', nI n) = yTicks 10 (vN y (yN y + 1)) 0 := hr
        refine stp_j hJ 2 ⟨fun _ => ?_, fun h2 => absurd (by decide) h2⟩
        refine stp_j hJ 2 ⟨?_, ?_⟩
        · rw [← hr]
        · rw [← hr]; exact h'
      | some k =>
        obtain ⟨t, g1, g2, g3⟩ := f2 k hf
        rw [g2, g3] at hr
        have hr : yTicks m (yRing (vT y' ((yT y').eraseIdx k)) t) (nI n + 1) = yTicks 10 (vN y (yN y + 1)) 0 := hr
        rw [nI_1] at hr
        have hlt : k < (yT y').length := (List.getElem?_eq_some_iff.mp g1).1
        have hck := h'.2.2.2.2.2.2.2.2.1
        have h10 := hck.2.1
        rw [List.length_map] at h10
        obtain ⟨c1, c2, c3, c4⟩ := hck.2.2 k (ckI t) (by rw [List.getElem?_map, g1]; rfl)
        have c1 : ρ'.1 26 0 k = t.1 := c1
        have c3 : ρ'.1 26 2 k = t.2.2.1 := c3
        have c4 : ρ'.1 27 0 k = bI t.2.2.2 := c4
        have htm := List.mem_of_getElem? g1
        have hA := (a'.1.1.2.2.2.2.1 t htm).1
        refine stp_j hJ 2 ⟨fun h2 => absurd h2 (nI_pos (by omega)), fun _ => ?_⟩
        refine stp_j hJ 15 ⟨i20, i26 (by decide), k, ix_nI (by omega) (by decide), _, c1, i20, i26 (by decide), k, ix_nI (by omega) (by decide), _, c3, i20, i27, k, ix_nI (by omega) (by decide), _, c4, ?_⟩
        refine stp_j hJ 3 ⟨trivial, ⟨i20, trivial⟩, _, r_find ρ' t.1, ?_⟩
        rintro o τ ⟨w, rfl⟩
        have w := w.symm
        subst w
        rcases h'.1.fd t.1 with ⟨s, hs, e, hi, _, hp⟩ | ⟨e, hno⟩
        · rw [e]
          have hi0 : ¬ t.1 = 0 := fun z => by rw [z] at hp; exact absurd hp (by decide)
          refine stp_j hJ 4 ⟨trivial, ⟨i20, trivial⟩, _, r_dropClock hck (k := k) (by rw [List.length_map]; exact hlt), ?_⟩
          rintro o τ ⟨w, k1, k2⟩
          subst w
          rw [← eraseIdx_map] at k2
          obtain ⟨k3, k3w⟩ := h'.ck k1 k2
          have a2 := a'.ring g1
          have hT := ring_T y' hlt t
          have hst : StR (yL y') y' (yRing (vT y' ((yT y').eraseIdx k)) t) := ring_st y' k t
          have hn2 : yN (yRing (vT y' ((yT y').eraseIdx k)) t) = yN y' := hst.2.2.2.1
          have again : ∀ (τ : mS) (v3 v4 v5 v6 : mV), RRw τ (yRing (vT y' ((yT y').eraseIdx k)) t) ls [] → J τ 97 [(0, mR 20 0), (1, mI (nI (n + 1))), (2, mI (nI k)), (3, v3), (4, v4), (5, v5), (6, v6)] [] := by
            intro τ v3 v4 v5 v6 m1
            refine stp_j hJ 2 ⟨trivial, ⟨i20, trivial⟩, _, r_due m1.2.2.2.2.2.2.2.2.1, ?_⟩
            rintro o υ ⟨w, rfl⟩
            have w := w.symm
            subst w
            have hsc := m1.2.2.2.1.2.1
            rw [hsc, due_eq a2.2.2.2.1 (by rw [hn2]; exact hn)]
            refine stp_j hJ 2 ?_
            exact j_pre hJ (lv := [(0, mR 20 0), (1, mI (nI (n + 1))), (2, mI (idI ((yT (yRing (vT y' ((yT y').eraseIdx k)) t)).findIdx? (fun t_1 => t_1.2.1 == (yN (yRing (vT y' ((yT y').eraseIdx k)) t) : Int)))))]) (ext := [(3, v3), (4, v4), (5, v5), (6, v6)]) (ih (n + 1) τ _ m1 a2 (by omega) (by rw [hn2]; exact hn) hr)
          refine stp_j hJ 1 ⟨_, nI_1 n, ?_⟩
          have hit : τ.1 22 0 s = t.1 := by rw [k3w]; exact hi
          have hl := (a'.1.1.2.2.2.2.1 t htm).2
          cases hb : t.2.2.2 with
          | true =>
            have hwait := hl hb
            have hq8 := h'.hq a'.1.1.1 t.1 hA hwait
            have er : yRing (vT y' ((yT y').eraseIdx k)) t = yReady (setF (vT y' ((yT y').eraseIdx k)) 3 t.1 (yF y' 3 t.1 + 2)) t.1 := by rw [yRing, if_pos hb]; rfl
            obtain ⟨b1, _⟩ := k3.sl hs hit hi0
            have b1 : τ.1 22 1 s = yF y' 3 t.1 := b1
            refine stp_j hJ 2 ⟨fun h2 => absurd h2 (by decide), fun _ => ?_⟩
            refine stp_j hJ 10 ⟨i20, i20, i22 (by decide), s, ix_nI hs (by decide), _, b1, _, rfl, i22 (by decide), s, ix_nI hs (by decide), ?_⟩
            have m1 := k3.at' hs hit hi0 (yF y' 3 t.1 + 2)
            have hit2 : (sI τ 22 1 s (yF y' 3 t.1 + 2)).1 22 0 s = t.1 := by rw [m1.2]; exact hit
            refine stp_j hJ 3 ⟨trivial, ⟨i20, trivial⟩, _, R_enqueue m1.1 hq8 hs hit2 hi0, ?_⟩
            rintro o υ ⟨w, n1, n2⟩
            subst w
            rw [← er] at n1
            exact stp_j hJ 1 (again υ _ _ _ _ n1)
          | false =>
            have er : yRing (vT y' ((yT y').eraseIdx k)) t = yDel (vT y' ((yT y').eraseIdx k)) t.1 t.1 t.2.2.1 := by rw [yRing, if_neg (by rw [hb]; decide)]
            refine stp_j hJ 2 ⟨fun _ => ?_, fun h2 => absurd rfl h2⟩
            refine stp_j hJ 5 ⟨trivial, ⟨i20, trivial⟩, _, R_post k3 (k3.hq a'.1.1.1) t.1 t.1 t.2.2.1, ?_⟩
            rintro o υ ⟨w, n1, n2⟩
            subst w
            rw [if_pos (show t.1 ∈ yA (vT y' ((yT y').eraseIdx k)) from hA), ← er] at n1
            exact again υ _ _ _ _ n1
        · exact absurd hA hno
  have h0 := h.now (yN y + 1)
  have a0 := a.now
  have hsc := h.2.2.2.1.2.1
  refine stp_j hJ 8 ⟨i20, _, hsc, _, nI_1 (yN y), i20, ?_⟩
  refine stp_j hJ 2 ⟨trivial, ⟨i20, trivial⟩, _, r_due h0.2.2.2.2.2.2.2.2.1, ?_⟩
  rintro o υ ⟨w, rfl⟩
  have w := w.symm
  subst w
  have hsc2 := h0.2.2.2.1.2.1
  have ed := due_eq a0.2.2.2.1 hN
  have h10 := h0.2.2.2.2.2.2.2.2.1.2.1
  rw [List.length_map] at h10
  rw [hsc2, ed]
  exact stp_j hJ 1 (loop 10 0 _ (vN y (yN y + 1)) h0 a0 h10 hN rfl)
