/-! The reference: an actor ends (parts of it) -/
theorem RRw.die {ρ : mS} {y : Yd} {ls es : List (Int32 × Int32)} (h : RRw ρ y ls es) (hn : (yA y).Nodup) {s : Nat} (hs : s < 8) {x : Int32} (hi : ρ.1 22 0 s = x) (hx : ¬ x = 0) : RRw (sI ρ 22 0 s 0) (vA y ((yA y).erase x)) ls es := by
  have f : Fr (fun k i p => k = 22 ∧ i = 0 ∧ p = s) ρ (sI ρ 22 0 s 0) := Fr.oI ⟨rfl, rfl, rfl⟩
  obtain ⟨h1, h2, h3, h4, h5, h6, h7, h8, h9, h10, h11, h12⟩ := h
  have ws : (sI ρ 22 0 s 0).1 22 0 s = 0 := by simp [u3]
  have wo : ∀ t, ¬ t = s → (sI ρ 22 0 s 0).1 22 0 t = ρ.1 22 0 t := fun t ht => f.1 22 0 t (fun z => ht z.2.2)
  have ne : ∀ t, t < 8 → ¬ t = s → ¬ ρ.1 22 0 t = 0 → ¬ ρ.1 22 0 t = x := fun t ht hts h0 z => hts (h1.2.2 t s ht hs (z.trans hi.symm) h0)
  refine ⟨⟨?_, ?_, ?_⟩, ?_, ?_, ⟨?_, ?_, ?_⟩, h5.fr f ?_, h6.fr f ?_, h7.fr f ?_, h8, h9.fr f ?_, h10.fr f ?_, h11.fr f ?_, h12⟩
  · intro t ht
    by_cases hts : t = s
    · subst hts; exact Or.inl ws
    · rw [wo t hts]
      rcases h1.1 t ht with z | z
      · exact Or.inl z
      · by_cases h0 : ρ.1 22 0 t = 0
        · exact Or.inl h0
        · exact Or.inr ⟨(List.mem_erase_of_ne (ne t ht hts h0)).mpr z.1, z.2⟩
  · intro i hiA
    have hm : i ∈ yA y := List.mem_of_mem_erase hiA
    have hix : ¬ i = x := ((hn.mem_erase_iff).mp hiA).1
    obtain ⟨t, ht, e, hp⟩ := h1.2.1 i hm
    have hts : ¬ t = s := fun z => hix (by rw [← e, z, hi])
    exact ⟨t, ht, by rw [wo t hts]; exact e, hp⟩
  · intro a b ha hb e h0
    by_cases has : a = s
    · rw [has, ws] at h0; exact absurd rfl h0
    · by_cases hbs : b = s
      · rw [hbs, ws] at e; exact absurd e h0
      · rw [wo a has] at e h0
        rw [wo b hbs] at e
        exact h1.2.2 a b ha hb e h0
  · intro t ht h0
    have hts : ¬ t = s := fun z => h0 (by rw [z]; exact ws)
    rw [wo t hts] at h0 ⊢
    exact (h2 t ht h0).cg (fun k k1 _ => f.1 22 k t (fun z => by have := z.2.1; omega)) (fun k _ => f.1 23 k t (by simp)) (fun r _ => f.1 24 0 _ (by simp)) (fun r _ => f.1 25 0 _ (by simp)) (fun _ => rfl) (fun _ => rfl) rfl (Nat.le_refl _)
  · intro c hc
    rw [f.1 21 0 c (by simp), f.1 21 1 c (by simp), f.1 21 2 c (by simp)]
    exact h3 c hc
  · rw [f.1 20 0 3 (by simp)]; exact h4.1
  · rw [f.1 20 0 17 (by simp)]; exact h4.2.1
  · rw [f.1 20 0 25 (by simp)]; exact h4.2.2
  · intro k i p z; simp only [qRo] at z ⊢; omega
  · intro k i p z; simp only [qMl] at z ⊢; omega
  · intro k i p z; simp only [qLk] at z ⊢; omega
  · intro k i p z; simp only [qCk] at z ⊢; omega
  · intro k i p z; simp only [qOu] at z ⊢; omega
  · intro k i p z; simp only [qEn] at z ⊢; omega
theorem RRw.hist {τ : mS} {y : Yd} {ls es : List (Int32 × Int32)} (h : RRw τ y ls es) {u : Nat} (hu : u < 8) {o : Int32} (hi : τ.1 22 0 u = o) (ho : ¬ o = 0) {b : Nat} (hb : τ.1 22 6 u = nI b) (hb2 : b < 2 ^ 31) (hbL : b + 1 ≤ (yL y).toNatClampNeg) (hN : yN y < 2 ^ 31) : RRw (sI (sI τ 25 0 (3 * u + b % 3) (nI (yN y))) 22 6 u (nI (b + 1))) (yHist y o) ls es ∧ (sI (sI τ 25 0 (3 * u + b % 3) (nI (yN y))) 22 6 u (nI (b + 1))).1 22 0 = τ.1 22 0 := by
  obtain ⟨a1, a2, a3, a4, a5, a6, a7, a8, b', hb', a9, a10, a11, a12, a13⟩ := h.sl hu hi ho
  have hL31 : (yL y).toNatClampNeg < 2 ^ 31 := (yL y).toNatClampNeg_lt
  have eb : b' = b := (nI_eq (by omega) hb2).mp (a9.symm.trans hb)
  subst eb
  have hm : b' % 3 < 3 := Nat.mod_lt _ (by decide)
  have f : Fr (qS u) τ (sI (sI τ 25 0 (3 * u + b' % 3) (nI (yN y))) 22 6 u (nI (b' + 1))) := (Fr.oI (by simp [qS]; omega)).andI (by simp [qS])
  have n0 : ∀ n, ¬ n = 5 → yF (yHist y o) n o = yF y n o := fun n hn => by
    show up2 (yF y) 5 o _ n o = _
    simp [up2, hn]
  have eH : yH (yHist y o) o = ((yH y o).2.1, (yH y o).2.2, (yN y : Int)) := by
    show up1 (yH y) o _ o = _
    simp [up1]
  refine h.slot hu hi f ⟨?_, ?_, ?_, ?_, ?_, ?_, ?_, ?_, b' + 1, hbL, ?_, ?_, ?_, ?_, ?_⟩ ?_ (fun n j _ => rfl) ?_ rfl
  · rw [n0 3 (by decide)]; simpa [u3] using a1
  · rw [n0 0 (by decide)]; simpa [u3] using a2
  · rw [n0 1 (by decide)]; simpa [u3] using a3
  · rw [n0 2 (by decide)]; simpa [u3] using a4
  · rw [n0 4 (by decide)]; simpa [u3] using a5
  · rw [show yB (yHist y o) = yB y from rfl]; simpa [u3] using a6
  · rw [show yB (yHist y o) = yB y from rfl]; simpa [u3] using a7
  · intro r hr
    rw [n0 (8 + r) (by omega)]
    simpa [u3] using a8 r hr
  · simp [u3]
  · show up2 (yF y) 5 o (yF y 5 o + 1) 5 o = _
    rw [a10, nI_1]
    simp [up2]
  · rw [eH, if_pos (by omega)]
    have : (b' + 1 + 2) % 3 = b' % 3 := by omega
    rw [this]
    simp only [u3]
    rw [if_neg (by omega), if_pos ⟨trivial, trivial, trivial⟩, nI_toInt hN]
  · rw [eH]
    show (yH y o).2.2 = _
    rw [a11]
    have : ¬ (b' + 1 + 1) % 3 = b' % 3 := by omega
    by_cases hb1 : 1 ≤ b'
    · rw [if_pos hb1, if_pos (by omega)]
      simp only [u3]
      rw [if_neg (by omega), if_neg (by omega)]
    · rw [if_neg hb1, if_neg (by omega)]
  · rw [eH]
    show (yH y o).2.1 = _
    rw [a12]
    have : ¬ (b' + 1) % 3 = b' % 3 := by omega
    by_cases hb1 : 2 ≤ b'
    · rw [if_pos hb1, if_pos (by omega)]
      simp only [u3]
      rw [if_neg (by omega), if_neg (by omega)]
    · rw [if_neg hb1, if_neg (by omega)]
  · intro n j hj
    show up2 (yF y) 5 o _ n j = _
    simp [up2, hj]
  · intro j hj
    show up1 (yH y) o _ j = _
    simp [up1, hj]
theorem EE.hist {y : Yd} {ds : List (Int32 × Int32)} (h : EE y ds) (o : Int32) : EE (yHist y o) ds := h
theorem psi_new {y : Yd} (hov : ∀ j, yF y 2 j ≤ yL y) (hL : (yL y).toInt < 2147483647) (hA : ∀ i ∈ yA y, i ≤ yL y) (et ar ov : Int32) : psi (yNew y et ar ov) ≤ psi y + 2 := by
  have hlt := l_lt hL
  have ne : ∀ z, z ≤ yL y → ¬ z = yL y + 1 := fun z hz e => by
    rw [e] at hz
    exact absurd hlt (Int32.not_lt.mpr hz)
  have hc := cC_new (A := yA y) (n := yL y + 1) (f := yF y 2) (g := yF (yNew y et ar ov) 2) (fun z _ => ne _ (hov z)) (fun z hz => by rw [yF_new2, if_neg (ne z (hA z hz))])
  unfold psi
  rw [yK_new, yA_new, List.length_append]
  simp only [List.length_cons, List.length_nil]
  omega
theorem psi_hist (y : Yd) (o : Int32) : psi (yHist y o) = psi y := by
  have : yF (yHist y o) 2 = yF y 2 := by
    funext j
    show up2 (yF y) 5 o (yF y 5 o + 1) 2 j = _
    simp [up2]
  unfold psi
  rw [this]
  rfl
theorem psi_end (y : Yd) (i r : Int32) : psi (yEnd y i r) = psi y := by
  unfold psi
  rw [yK_end, yA_end, yF_end]
theorem ln_nat {L : Int32} (l0 : 0 ≤ L) (hL : L.toInt < 2147483647) : ∃ N, L = nI N ∧ N + 1 < 2 ^ 31 := by
  obtain ⟨N, hN, e⟩ := nI_of (Int32.not_lt.mpr l0)
  refine ⟨N, e, ?_⟩
  rw [e, nI_toInt hN] at hL
  omega
/-- telling the overseer -/
def tl (r x : Int32) (y : Yd) : Yd := if r = 0 then y else yTell y x
theorem end_tell {post : mPo} {J : mK} (hJ : Cl tX7_end clR post J) {ρ : mS} {y : Yd} {ls es ds : List (Int32 × Int32)} (h : RRw ρ y ls es) (iv : InvY y) (l0 : 0 ≤ yL y) (hL : (yL y).toInt < 2147483647) (hN : yN y < 2 ^ 31) (hov : OvI y) (he : EE y ds) (h8 : (yA y).length < 8) (hl : es.length < 200) (x r : Int32) (s : Nat) (v : mV)
    (fin : ∀ τ ex, RRw τ (tl r x y) ls (es ++ ex) → EE (tl r x y) (ds ++ ex) → (es ++ ex).length + psi (tl r x y) ≤ es.length + psi y + 1 + (if yF y 2 x ∈ yA y then 1 else 0) → (∀ t, t < 8 → ¬ ρ.1 22 0 t = 0 → τ.1 22 0 t = ρ.1 22 0 t) → post none τ) :
    J ρ 194 [(0, mR 20 0), (1, mI x), (2, mI r), (3, mI (nI s)), (4, mI (yF y 0 x)), (5, mI (yF y 1 x)), (6, mI (yF y 2 x)), (7, v)] [] := by
  obtain ⟨N, hN1, hN2⟩ := ln_nat l0 hL
  have none_ : tl r x y = y → post none ρ := fun e => fin ρ [] (by rw [e, List.append_nil]; exact h) (by rw [e, List.append_nil]; exact he) (by rw [e, List.append_nil]; omega) (fun _ _ _ => rfl)
  refine stp_j hJ 3 ⟨trivial, ⟨i20, trivial⟩, _, r_find ρ (yF y 2 x), ?_⟩
  rintro o τ ⟨w, rfl⟩
  have w := w.symm
  subst w
  rcases h.1.fd (yF y 2 x) with ⟨u, hu, e, hi, hA, hp⟩ | ⟨e, hA⟩
  · rw [e]
    refine stp_j hJ 3 ⟨fun h2 => absurd h2 (nI_pos (by omega)), fun _ => ?_⟩
    have ho : ¬ yF y 2 x = 0 := fun z => by rw [z] at hp; exact absurd hp (by decide)
    refine stp_j hJ 2 ⟨fun h3 => stp_j hJ 1 (none_ (by rw [tl, if_pos h3])), fun h3 => ?_⟩
    have et : tl r x y = yTell y x := by rw [tl, if_neg h3]
    refine stp_j hJ 3 ⟨trivial, ⟨i20, trivial⟩, _, R_mayBegin h (yL y).toNatClampNeg_lt hN hu hi ho, ?_⟩
    rintro o τ ⟨w, hw⟩
    have w := w.symm
    subst w
    rcases hw with ⟨rfl, hw⟩ | ⟨rfl, hw⟩
    · refine stp_j hJ 1 ⟨fun h4 => absurd h4 (by decide), fun _ => ?_⟩
      have hids : ∀ i, i ∈ yA y → i ≤ yL y := fun i hi => (iv.2.2.2.2.2.2.1 i hi).2
      refine stp_j hJ 5 ⟨trivial, ⟨i20, trivial⟩, _, R_begin h hN1 hN2 hids (pw_nd iv.1.1) (q_lenA iv.1) (yF y 0 x) (yF y 1 x) (yF y 2 x), ?_⟩
      rintro o τ ⟨rfl, hr, hk⟩
      have eb : yBegin y (yF y 0 x) (yF y 1 x) (yF y 2 x) = (yNew y (yF y 0 x) (yF y 1 x) (yF y 2 x), some (yL y + 1)) := by rw [yBegin, if_pos h8]
      rw [eb] at hr ⊢
      have hr : RRw τ (yNew y (yF y 0 x) (yF y 1 x) (yF y 2 x)) ls es := hr
      have hiu : τ.1 22 0 u = yF y 2 x := by rw [hk u hu (by rw [hi]; exact ho)]; exact hi
      obtain ⟨_, _, _, _, _, _, _, _, b, hb, a9, a10, _, _, _⟩ := h.sl hu hi ho
      obtain ⟨_, _, _, _, _, _, _, _, b', hb', a9', a10', _, _, _⟩ := hr.sl hu hiu ho
      have hlt := l_lt hL
      have hon : ¬ yF y 2 x = yL y + 1 := fun z => by
        have := hids _ hA
        rw [z] at this
        exact absurd hlt (Int32.not_lt.mpr this)
      have e5 : yF (yNew y (yF y 0 x) (yF y 1 x) (yF y 2 x)) 5 (yF y 2 x) = yF y 5 (yF y 2 x) := by rw [yF_new, if_neg hon]
      have hL31 : (yL y).toNatClampNeg < 2 ^ 31 := (yL y).toNatClampNeg_lt
      have hL32 : (yL (yNew y (yF y 0 x) (yF y 1 x) (yF y 2 x))).toNatClampNeg = (yL y).toNatClampNeg + 1 := by
        rw [yL_new, hN1, nI_1, nI_clamp hN2, nI_clamp (by omega)]
      have ebb : b' = b := by
        refine (nI_eq (by have := (yL (yNew y (yF y 0 x) (yF y 1 x) (yF y 2 x))).toNatClampNeg_lt; omega) (by omega)).mp ?_
        rw [← a10', e5, a10]
      subst ebb
      have hm : b' % 3 < 3 := Nat.mod_lt _ (by decide)
      have hg : ¬ yL y + 1 ≤ 0 := by
        rw [hN1, nI_1]
        exact nI_ge (a := 0) (b := N + 1) (by omega) hN2
      have hnow : yN (yNew y (yF y 0 x) (yF y 1 x) (yF y 2 x)) = yN y := yN_new _ _ _ _
      have hsc := hr.2.2.2.1.2.1
      rw [hnow] at hsc
      refine stp_j hJ 16 ⟨i20, _, nI_3 u, i20, i22 (by decide), u, ix_nI hu (by decide), _, a9', by decide, _, pk_rem (a := b') (d := 3) (by omega) (by decide) (by decide), _, nI_add _ _, i20, _, hsc, i25 (by decide), 3 * u + b' % 3, ix_nI (by omega) (by decide), ?_⟩
      refine stp_j hJ 5 ⟨i20, fun h4 => absurd h4 hg, fun _ => ?_⟩
      refine stp_j hJ 9 ⟨i20, i22 (by decide), u, ix_nI hu (by decide), nI b', (by simp [u3]; exact a9'), _, nI_1 b', i22 (by decide), u, ix_nI hu (by decide), ?_⟩
      have hh := hr.hist hu hiu ho a9' (by omega) (by omega) (by rw [hnow]; exact hN)
      rw [hnow, hist_new y _ _ _ _ hon] at hh
      have ey : yTell y x = yNew (yHist y (yF y 2 x)) (yF y 0 x) (yF y 1 x) (yF y 2 x) := by
        rw [yTell, if_pos hA, if_pos hw, yBegin, if_pos (show (yA (yHist y (yF y 2 x))).length < 8 from h8)]
      refine stp_j hJ 1 (fin _ [] ?_ ?_ ?_ ?_)
      · rw [et, ey, List.append_nil]; exact hh.1
      · rw [et, ey, List.append_nil]
        exact (he.hist (yF y 2 x)).new hL _ _ _
      · rw [et, ey, List.append_nil, if_pos hA]
        have := psi_new (y := yHist y (yF y 2 x)) (fun j => by
          have : yF (yHist y (yF y 2 x)) 2 j = yF y 2 j := by
            show up2 (yF y) 5 (yF y 2 x) (yF y 5 (yF y 2 x) + 1) 2 j = _
            simp [up2]
          rw [this]; exact hov j) hL hids (yF y 0 x) (yF y 1 x) (yF y 2 x)
        rw [psi_hist] at this
        omega
      · intro t ht h0
        rw [hh.2]
        exact hk t ht h0
    · refine stp_j hJ 1 ⟨fun _ => ?_, fun h4 => absurd rfl h4⟩
      refine stp_j hJ 4 ⟨trivial, ⟨i20, trivial⟩, _, R_ends h hl (yF y 2 x) (-3), ?_⟩
      rintro o τ ⟨w, k1, k2⟩
      subst w
      have ey : yTell y x = yEnd y (yF y 2 x) (-3) := by rw [yTell, if_pos hA, if_neg hw]
      refine stp_j hJ 1 (fin τ [(yF y 2 x, -3)] ?_ ?_ ?_ (fun t _ _ => by rw [k2]))
      · rw [et, ey, yEnd]
        split
        · exact k1
        · exact k1.vE _
      · rw [et, ey]
        exact he.end_ hA (hov x) _
      · rw [et, ey, psi_end, List.length_append]
        simp only [List.length_cons, List.length_nil]
        omega
  · rw [e]
    refine stp_j hJ 3 ⟨fun _ => ?_, fun h5 => absurd (by decide) h5⟩
    exact stp_j hJ 1 (none_ (by rw [tl, yTell, if_neg hA]; split <;> rfl))
