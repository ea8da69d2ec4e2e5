/-! The reference: act -/
theorem setF_same (y : Yd) (n : Nat) (i : Int32) : setF y n i (yF y n i) = y := by
  have : up2 (yF y) n i (yF y n i) = yF y := by
    funext m j
    unfold up2
    split
    · rename_i z
      rw [z.1, z.2]
    · rfl
  unfold setF
  rw [this]
  rfl
theorem EE.of {y z : Yd} {ds : List (Int32 × Int32)} (h : EE y ds) (e1 : yE z = yE y) (e2 : yA z = yA y) (e3 : yL z = yL y) : EE z ds := ⟨by rw [e1, e2]; exact h.1, fun e he => by rw [e3]; exact h.2 e he⟩
theorem take_E (y : Yd) (i a b : Int32) : yE (yTake y i a b) = yE y ∧ yA (yTake y i a b) = yA y ∧ yL (yTake y i a b) = yL y := by
  unfold yTake
  split
  · exact ⟨rfl, rfl, rfl⟩
  · split
    · unfold yClock
      split <;> exact ⟨rfl, rfl, rfl⟩
    · exact ⟨rfl, rfl, rfl⟩
theorem rg_of {a : Int32} (h : 0 ≤ a ∧ a < 4) : ∃ n, n < 4 ∧ a = nI n := by
  obtain ⟨n, hn, e⟩ := nI_of (Int32.not_lt.mpr h.1)
  subst e
  exact ⟨n, (nI_ltI (a := n) (b := 4) hn (by decide)).mp h.2, rfl⟩
theorem R_act {ρ : mS} {y : Yd} {ls es ds : List (Int32 × Int32)} (h : RRw ρ y ls es) (q : Full y) (hL : (yL y).toInt < 2147483647) (he : EE y ds) (hl : es.length < 200) {s : Nat} (hs : s < 8) {i : Int32} (hi : ρ.1 22 0 s = i) (hi0 : ¬ i = 0) {op a b : Int32} (ok : insOk op a b) : Meets clR yX7_act (kX7_act :: wT) rX7_act [mR 20 0, mI (nI s), mI op, mI a, mI b] ρ (fun o τ => o = none ∧ ∃ ls' ex, RRw τ (yAct y i op a b) ls' (es ++ ex) ∧ EE (yAct y i op a b) (ds ++ ex) ∧ ex.length ≤ 1 ∧ ∀ t, t < 8 → ¬ ρ.1 22 0 t = 0 → τ.1 22 0 t = ρ.1 22 0 t) := by
  refine Meets.of SX7_act rfl (by decide) rfl (Nat.le_of_ble_eq_true rfl) ?_
  intro J hJ
  obtain ⟨a1, a2, a3, a4, a5, a6, a7, a8, _⟩ := h.sl hs hi hi0
  have hAi : i ∈ yA y := by
    rcases h.1.1 s hs with z | z
    · exact absurd (hi.symm.trans z) hi0
    · rw [hi] at z
      exact z.1
  have hiL : i ≤ yL y := (q.1.2.2.2.2.2.2.1 i hAi).2
  have lit : ∀ {k : Int32} {n : Int}, op.toInt = n → k.toInt = n → op = k := fun h1 h2 => Int32.toInt_inj.mp (h1.trans h2.symm)
  have finW : ∀ {τ : mS} {z : Yd} {ls' : List (Int32 × Int32)} {lv : mLv}, RRw τ z ls' es → yAct y i op a b = z → EE z ds → (∀ t, t < 8 → ¬ ρ.1 22 0 t = 0 → τ.1 22 0 t = ρ.1 22 0 t) → J τ 368 lv [] := fun {τ z ls' lv} g e g2 g3 => stp_j hJ 1 ⟨rfl, ls', [], by rw [e, List.append_nil]; exact g, by rw [e, List.append_nil]; exact g2, Nat.zero_le _, g3⟩
  have finS : ∀ {τ : mS} {z : Yd} {lv : mLv}, RRw τ z ls es → yAct y i op a b = z → yE z = yE y → yA z = yA y → yL z = yL y → τ.1 22 0 = ρ.1 22 0 → J τ 368 lv [] := fun {τ z lv} g e e1 e2 e3 g3 => finW g e (he.of e1 e2 e3) (fun t _ _ => by rw [g3])
  have hA := ok.2.2.1
  obtain ⟨N, hN, hN2⟩ := q.nat hL
  have after : ∀ (r : Nat), r < 4 → ∀ (ov : Int32) (τ : mS), yAct y i op a b = ySpawn y i (nI r) b ov → RRw τ (yBegin y b (yF y (8 + r) i) ov).1 ls es → (∀ t, t < 8 → ¬ ρ.1 22 0 t = 0 → τ.1 22 0 t = ρ.1 22 0 t) → J τ 246 [(0, mR 20 0), (1, mI (nI s)), (2, mI op), (3, mI a), (4, mI b), (5, mI (nI (4 * s) + nI r))] [mI (bgA (yBegin y b (yF y (8 + r) i) ov).2)] := by
    intro r hr ov τ ey g1 g2
    have hi' : τ.1 22 0 s = i := by rw [g2 s hs (by rw [hi]; exact hi0)]; exact hi
    have ey2 : yAct y i op a b = setF (yBegin y b (yF y (8 + r) i) ov).1 (8 + r) i (match (yBegin y b (yF y (8 + r) i) ov).2 with | some k => k | none => -1) := by
      rw [ey, ySpawn, rg_nI hr]
      rcases yBegin y b (yF y (8 + r) i) ov with ⟨z, _ | k⟩ <;> rfl
    by_cases h8 : (yA y).length < 8
    · have eb : yBegin y b (yF y (8 + r) i) ov = (yNew y b (yF y (8 + r) i) ov, some (yL y + 1)) := by rw [yBegin, if_pos h8]
      rw [eb] at g1 ey2 ⊢
      have g := g1.reg hs hi' hi0 hr (yL y + 1)
      have hne : ¬ yL y + 1 = 0 := by
        rw [hN, nI_1]
        intro z
        have := (nI_eq (a := N + 1) (b := 0) hN2 (by decide)).mp z
        omega
      refine stp_j hJ 6 ⟨i20, fun _ => ?_, fun h2 => absurd hne h2⟩
      refine stp_j hJ 3 ⟨i24, 4 * s + r, (by show ix (nI (4 * s) + nI r) 32 (4 * s + r); rw [nI_add]; exact ix_nI (by omega) (by decide)), ?_⟩
      exact finW g.1 ey2 ((he.new hL b (yF y (8 + r) i) ov).of rfl rfl rfl) (fun t ht h0 => (congrFun g.2 t).trans (g2 t ht h0))
    · have eb : yBegin y b (yF y (8 + r) i) ov = (y, none) := by rw [yBegin, if_neg h8]
      rw [eb] at g1 ey2 ⊢
      have g := g1.reg hs hi' hi0 hr (-1)
      refine stp_j hJ 6 ⟨i20, fun h2 => absurd rfl h2, fun _ => ?_⟩
      refine stp_j hJ 4 ⟨i24, 4 * s + r, (by show ix (nI (4 * s) + nI r) 32 (4 * s + r); rw [nI_add]; exact ix_nI (by omega) (by decide)), ?_⟩
      exact finW g.1 ey2 (he.of rfl rfl rfl) (fun t ht h0 => (congrFun g.2 t).trans (g2 t ht h0))
  have hids : ∀ i, i ∈ yA y → i ≤ yL y := fun i hi => (q.1.2.2.2.2.2.2.1 i hi).2
  refine stp_j hJ 8 ⟨_, nI_4 s, _, rfl, fun k u hu hn => ?_, fun hx => ?_⟩
  · match k, hu, hn with
    | 0, hu, hn =>
      cases hu
      have e := lit (k := 0) hn rfl
      obtain ⟨r, hr, rfl⟩ := rg_of ((hA.resolve_left (by rw [e]; decide)).resolve_left (by rw [e]; decide))
      have g := h.reg hs hi hi0 hr b
      refine stp_j hJ 6 ⟨i20, i24, 4 * s + r, (by show ix (nI (4 * s) + nI r) 32 (4 * s + r); rw [nI_add]; exact ix_nI (by omega) (by decide)), ?_⟩
      exact finS g.1 (by rw [yAct, if_pos e, rg_nI hr]) rfl rfl rfl g.2
    | 1, hu, hn =>
      cases hu
      have e := lit (k := 1) hn rfl
      obtain ⟨r, hr, rfl⟩ := rg_of ((hA.resolve_left (by rw [e]; decide)).resolve_left (by rw [e]; decide))
      obtain ⟨p, hp, rfl⟩ := rg_of (ok.2.2.2.1 (Or.inl e))
      have g := h.reg hs hi hi0 hr (yF y (8 + r) i + yF y (8 + p) i)
      refine stp_j hJ 18 ⟨i20, i20, i24, 4 * s + r, (by show ix (nI (4 * s) + nI r) 32 (4 * s + r); rw [nI_add]; exact ix_nI (by omega) (by decide)), _, a8 r hr, i20, _, nI_4 s, _, nI_add (4 * s) p, i24, 4 * s + p, ix_nI (by omega) (by decide), _, a8 p hp, _, rfl, i24, 4 * s + r, (by show ix (nI (4 * s) + nI r) 32 (4 * s + r); rw [nI_add]; exact ix_nI (by omega) (by decide)), ?_⟩
      exact finS g.1 (by rw [yAct, e, if_neg (by decide), if_pos rfl, rg_nI hr, rg_nI hp]) rfl rfl rfl g.2
    | 2, hu, hn =>
      cases hu
      have e := lit (k := 2) hn rfl
      obtain ⟨r, hr, rfl⟩ := rg_of ((hA.resolve_left (by rw [e]; decide)).resolve_left (by rw [e]; decide))
      obtain ⟨p, hp, rfl⟩ := rg_of (ok.2.2.2.1 (Or.inr (Or.inl e)))
      have ey : yAct y i op (nI r) (nI p) = if yF y (8 + r) i < yF y (8 + p) i then setF y 3 i (yF y 3 i + 1) else y := by
        rw [yAct, e, if_neg (by decide), if_neg (by decide), if_pos rfl, rg_nI hr, rg_nI hp]
      refine stp_j hJ 16 ⟨i20, i20, i24, 4 * s + r, (by show ix (nI (4 * s) + nI r) 32 (4 * s + r); rw [nI_add]; exact ix_nI (by omega) (by decide)), _, a8 r hr, i20, _, nI_4 s, _, nI_add (4 * s) p, i24, 4 * s + p, ix_nI (by omega) (by decide), _, a8 p hp, fun h2 => ?_, fun h2 => ?_⟩
      · have g := h.at' hs hi hi0 (yF y 3 i)
        refine stp_j hJ 6 ⟨i20, i22 (by decide), s, ix_nI hs (by decide), _, a1, i22 (by decide), s, ix_nI hs (by decide), ?_⟩
        rw [setF_same] at g
        exact finS g.1 (by rw [ey, if_neg (Int32.not_lt.mpr h2)]) rfl rfl rfl g.2
      · have g := h.at' hs hi hi0 (yF y 3 i + 1)
        refine stp_j hJ 9 ⟨i20, i22 (by decide), s, ix_nI hs (by decide), _, a1, _, rfl, i22 (by decide), s, ix_nI hs (by decide), ?_⟩
        exact finS g.1 (by rw [ey, if_pos (Int32.not_le.mp h2)]) rfl rfl rfl g.2
    | 3, hu, hn =>
      cases hu
      have e := lit (k := 3) hn rfl
      have g := h.at' hs hi hi0 b
      refine stp_j hJ 6 ⟨i20, i22 (by decide), s, ix_nI hs (by decide), ?_⟩
      exact finS g.1 (by rw [yAct, e, if_neg (by decide), if_neg (by decide), if_neg (by decide), if_pos rfl]) rfl rfl rfl g.2
    | 4, hu, hn =>
      cases hu
      have e := lit (k := 4) hn rfl
      obtain ⟨r, hr, rfl⟩ := rg_of ((hA.resolve_left (by rw [e]; decide)).resolve_left (by rw [e]; decide))
      obtain ⟨p, hp, rfl⟩ := rg_of (ok.2.2.2.1 (Or.inr (Or.inr e)))
      refine stp_j hJ 18 ⟨i20, i24, 4 * s + r, (by show ix (nI (4 * s) + nI r) 32 (4 * s + r); rw [nI_add]; exact ix_nI (by omega) (by decide)), _, a8 r hr, i20, i22 (by decide), s, ix_nI hs (by decide), _, hi, i20, _, nI_4 s, _, nI_add (4 * s) p, i24, 4 * s + p, ix_nI (by omega) (by decide), _, a8 p hp, trivial, ⟨i20, trivial⟩, _, R_post h (h.hq q.1.1) (yF y (8 + r) i) i (yF y (8 + p) i), ?_⟩
      rintro o τ ⟨w, g1, g2⟩
      subst w
      refine stp_j hJ 1 (finS g1 (by rw [yAct, e, if_neg (by decide), if_neg (by decide), if_neg (by decide), if_neg (by decide), if_pos rfl, rg_nI hr, rg_nI hp]) ?_ ?_ ?_ g2)
      · split
        · exact yE_del _ _ _ _
        · rfl
      · split
        · exact yA_del _ _ _ _
        · rfl
      · split
        · exact yL_del _ _ _ _
        · rfl
    | 5, hu, hn =>
      cases hu
      have e := lit (k := 5) hn rfl
      obtain ⟨r, hr, rfl⟩ := rg_of ((hA.resolve_left (by rw [e]; decide)).resolve_left (by rw [e]; decide))
      refine stp_j hJ 5 ⟨trivial, ⟨i20, trivial⟩, _, R_take h q.1.1 hs hi hi0 hr b, ?_⟩
      rintro o τ ⟨w, g1, g2⟩
      subst w
      obtain ⟨t1, t2, t3⟩ := take_E y i (nI r) b
      exact stp_j hJ 1 (finS g1 (by rw [yAct, e, if_neg (by decide), if_neg (by decide), if_neg (by decide), if_neg (by decide), if_neg (by decide), if_pos rfl]) t1 t2 t3 g2)
    | 8, hu, hn =>
      cases hu
      have e := lit (k := 8) hn rfl
      obtain ⟨r, hr, rfl⟩ := rg_of ((hA.resolve_left (by rw [e]; decide)).resolve_left (by rw [e]; decide))
      refine stp_j hJ 4 ⟨trivial, ⟨i20, trivial⟩, _, R_link h q he hl hs hi hi0 hr, ?_⟩
      rintro o τ ⟨w, ls', ex, g1, g2, g3, g4⟩
      subst w
      have ey : yAct y i op (nI r) b = yLink y i (nI r) := by rw [yAct, e, if_neg (by decide), if_neg (by decide), if_neg (by decide), if_neg (by decide), if_neg (by decide), if_neg (by decide), if_neg (by decide), if_neg (by decide), if_pos rfl]
      refine stp_j hJ 2 ⟨rfl, ls', ex, ?_, ?_, g3, fun t _ _ => by rw [g4]⟩
      · rw [ey]; exact g1
      · rw [ey]; exact g2
    | 9, hu, hn =>
      cases hu
      have e := lit (k := 9) hn rfl
      have ey : yAct y i op a b = setB y 0 i (decide (b ≠ 0)) := by rw [yAct, e, if_neg (by decide), if_neg (by decide), if_neg (by decide), if_neg (by decide), if_neg (by decide), if_neg (by decide), if_neg (by decide), if_neg (by decide), if_neg (by decide), if_pos rfl]
      refine stp_j hJ 5 ⟨i20, fun h2 => ?_, fun h2 => ?_⟩
      · have g := h.bo hs hi hi0 (w := 0) (by decide) false
        refine stp_j hJ 3 ⟨i23 (by decide), s, ix_nI hs (by decide), Or.inl rfl, ?_⟩
        exact finS g.1 (by rw [ey]; simp [show b = 0 from h2]) rfl rfl rfl g.2
      · have g := h.bo hs hi hi0 (w := 0) (by decide) true
        refine stp_j hJ 4 ⟨i23 (by decide), s, ix_nI hs (by decide), Or.inr rfl, ?_⟩
        exact finS g.1 (by rw [ey]; simp [show ¬ b = 0 from h2]) rfl rfl rfl g.2
    | 10, hu, hn =>
      cases hu
      have e := lit (k := 10) hn rfl
      obtain ⟨r, hr, rfl⟩ := rg_of ((hA.resolve_left (by rw [e]; decide)).resolve_left (by rw [e]; decide))
      have ey : yAct y i op (nI r) b = yEnd y i (yF y (8 + r) i) := by rw [yAct, e, if_neg (by decide), if_neg (by decide), if_neg (by decide), if_neg (by decide), if_neg (by decide), if_neg (by decide), if_neg (by decide), if_neg (by decide), if_neg (by decide), if_neg (by decide), if_pos rfl, rg_nI hr]
      refine stp_j hJ 10 ⟨i20, i22 (by decide), s, ix_nI hs (by decide), _, hi, i20, i24, 4 * s + r, (by show ix (nI (4 * s) + nI r) 32 (4 * s + r); rw [nI_add]; exact ix_nI (by omega) (by decide)), _, a8 r hr, trivial, ⟨i20, trivial⟩, _, R_ends h hl i (yF y (8 + r) i), ?_⟩
      rintro o τ ⟨w, g1, g2⟩
      subst w
      refine stp_j hJ 2 ⟨rfl, ls, [(i, yF y (8 + r) i)], ?_, ?_, Nat.le_refl _, fun t _ _ => by rw [g2]⟩
      · rw [ey, yEnd]
        split
        · exact g1
        · exact g1.vE _
      · rw [ey]; exact he.end_ hAi hiL _
    | 11, hu, hn =>
      cases hu
      have e := lit (k := 11) hn rfl
      obtain ⟨r, hr, rfl⟩ := rg_of ((hA.resolve_left (by rw [e]; decide)).resolve_left (by rw [e]; decide))
      refine stp_j hJ 7 ⟨i20, i24, 4 * s + r, (by show ix (nI (4 * s) + nI r) 32 (4 * s + r); rw [nI_add]; exact ix_nI (by omega) (by decide)), _, a8 r hr, trivial, ⟨i20, trivial⟩, _, R_put h hs hi (yF y (8 + r) i), ?_⟩
      rintro o τ ⟨w, g1, g2⟩
      subst w
      refine stp_j hJ 1 (finS g1 (by rw [yAct, e, if_neg (by decide), if_neg (by decide), if_neg (by decide), if_neg (by decide), if_neg (by decide), if_neg (by decide), if_neg (by decide), if_neg (by decide), if_neg (by decide), if_neg (by decide), if_neg (by decide), if_pos rfl, rg_nI hr]) ?_ ?_ ?_ g2)
      · unfold yPut
        split <;> rfl
      · unfold yPut
        split <;> rfl
      · unfold yPut
        split <;> rfl
    | 12, hu, hn =>
      cases hu
      have e := lit (k := 12) hn rfl
      obtain ⟨r, hr, rfl⟩ := rg_of ((hA.resolve_left (by rw [e]; decide)).resolve_left (by rw [e]; decide))
      have g := h.reg hs hi hi0 hr i
      refine stp_j hJ 9 ⟨i20, i20, i22 (by decide), s, ix_nI hs (by decide), _, hi, i24, 4 * s + r, (by show ix (nI (4 * s) + nI r) 32 (4 * s + r); rw [nI_add]; exact ix_nI (by omega) (by decide)), ?_⟩
      exact finS g.1 (by rw [yAct, e, if_neg (by decide), if_neg (by decide), if_neg (by decide), if_neg (by decide), if_neg (by decide), if_neg (by decide), if_neg (by decide), if_neg (by decide), if_neg (by decide), if_neg (by decide), if_neg (by decide), if_neg (by decide), if_pos rfl, rg_nI hr]) rfl rfl rfl g.2
    | 6, hu, hn =>
      cases hu
      have e := lit (k := 6) hn rfl
      obtain ⟨r, hr, rfl⟩ := rg_of ((hA.resolve_left (by rw [e]; decide)).resolve_left (by rw [e]; decide))
      refine stp_j hJ 9 ⟨i20, i24, 4 * s + r, (by show ix (nI (4 * s) + nI r) 32 (4 * s + r); rw [nI_add]; exact ix_nI (by omega) (by decide)), _, a8 r hr, fun _ => ?_, fun h2 => absurd (by rw [e]; decide) h2⟩
      refine stp_j hJ 2 ⟨trivial, ⟨i20, trivial⟩, _, R_begin h hN hN2 hids (pw_nd q.1.1.1) (q_lenA q.1.1) b (yF y (8 + r) i) 0, ?_⟩
      rintro o τ ⟨rfl, g1, g2⟩
      exact after r hr 0 τ (by rw [yAct, e, if_neg (by decide), if_neg (by decide), if_neg (by decide), if_neg (by decide), if_neg (by decide), if_neg (by decide), if_pos rfl]) g1 g2
    | 7, hu, hn =>
      cases hu
      have e := lit (k := 7) hn rfl
      obtain ⟨r, hr, rfl⟩ := rg_of ((hA.resolve_left (by rw [e]; decide)).resolve_left (by rw [e]; decide))
      refine stp_j hJ 9 ⟨i20, i24, 4 * s + r, (by show ix (nI (4 * s) + nI r) 32 (4 * s + r); rw [nI_add]; exact ix_nI (by omega) (by decide)), _, a8 r hr, fun h2 => absurd e h2, fun _ => ?_⟩
      refine stp_j hJ 6 ⟨i20, i22 (by decide), s, ix_nI hs (by decide), _, hi, trivial, ⟨i20, trivial⟩, _, R_begin h hN hN2 hids (pw_nd q.1.1.1) (q_lenA q.1.1) b (yF y (8 + r) i) i, ?_⟩
      rintro o τ ⟨rfl, g1, g2⟩
      exact after r hr i τ (by rw [yAct, e, if_neg (by decide), if_neg (by decide), if_neg (by decide), if_neg (by decide), if_neg (by decide), if_neg (by decide), if_neg (by decide), if_pos rfl]) g1 g2
    | n + 13, hu, _ => simp at hu
  · have e : op = 13 := by
      have q1 := Int32.le_iff_toInt_le.mp ok.1
      have q2 := Int32.le_iff_toInt_le.mp ok.2.1
      have e0 : (0 : Int32).toInt = 0 := rfl
      have e13 : (13 : Int32).toInt = 13 := rfl
      simp only [List.length_cons, List.length_nil] at hx
      exact Int32.toInt_inj.mp (by omega)
    obtain ⟨r, hr, rfl⟩ := rg_of ((hA.resolve_left (by rw [e]; decide)).resolve_left (by rw [e]; decide))
    refine stp_j hJ 12 ⟨i20, i22 (by decide), s, ix_nI hs (by decide), _, hi, i20, i24, 4 * s + r, (by show ix (nI (4 * s) + nI r) 32 (4 * s + r); rw [nI_add]; exact ix_nI (by omega) (by decide)), _, a8 r hr, trivial, ⟨i20, trivial⟩, _, R_clock h i b (yF y (8 + r) i) false, ?_⟩
    rintro o τ ⟨w, g1, g2⟩
    subst w
    refine finS g1 (by rw [yAct, e, if_neg (by decide), if_neg (by decide), if_neg (by decide), if_neg (by decide), if_neg (by decide), if_neg (by decide), if_neg (by decide), if_neg (by decide), if_neg (by decide), if_neg (by decide), if_neg (by decide), if_neg (by decide), if_neg (by decide), rg_nI hr]) ?_ ?_ ?_ g2
    · unfold yClock
      split <;> rfl
    · unfold yClock
      split <;> rfl
    · unfold yClock
      split <;> rfl
