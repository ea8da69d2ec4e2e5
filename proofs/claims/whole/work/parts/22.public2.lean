/-! load, spawn, inject, step, run -/
def yLoad (y : Yd) (c op a b : Int32) : Yd := vC y (fun k p => if p = c.toNatClampNeg then (if k = 0 then op else if k = 1 then a else b) else yC y k p)
theorem p_load {σ : mS} {y : Yd} (h : RC σ y) (c op a b : Int32) : Meets clC yX6_load (kX6_load :: wT) rX6_load [mR 0 0, mI c, mI op, mI a, mI b] σ (fun r τ => yes (0 ≤ c ∧ c < 48 ∧ insOk op a b) r ∧ ((0 ≤ c ∧ c < 48 ∧ insOk op a b) → RC τ (yLoad y c op a b)) ∧ (¬ (0 ≤ c ∧ c < 48 ∧ insOk op a b) → RC τ y)) := by
  have h0 := h
  obtain ⟨al, sp, rd, en, ts, h⟩ := h
  refine Meets.of SX6_load rfl (by decide) rfl (Nat.le_of_ble_eq_true rfl) ?_
  intro J hJ
  have no : ¬ (0 ≤ c ∧ c < 48 ∧ insOk op a b) → J σ 17 [(0, mR 0 0), (1, mI c), (2, mI op), (3, mI a), (4, mI b)] [] := fun z => stp_j hJ 2 ⟨Or.inl rfl, Or.inr ⟨rfl, z⟩, fun w => absurd w z, fun _ => h0⟩
  refine stp_j hJ 2 ⟨trivial, rfl, _, c_Code_isCell σ c, ?_⟩
  rintro r τ ⟨w, hy⟩
  have w := w.symm
  subst w
  rcases hy with ⟨rfl, hc⟩ | ⟨rfl, hc⟩
  · refine stp_j hJ 1 ⟨fun z => absurd z (by decide), fun _ => ?_⟩
    refine stp_j hJ 4 ⟨trivial, rfl, _, c_Code_isInstruction σ op a b, ?_⟩
    rintro r τ ⟨w, hy⟩
    have w := w.symm
    subst w
    rcases hy with ⟨rfl, hi⟩ | ⟨rfl, hi⟩
    · refine stp_j hJ 1 ⟨fun _ => ?_, fun z => absurd (by decide) z⟩
      refine stp_j hJ 7 ⟨i0, trivial, ⟨i1, trivial⟩, _, c_Code_put σ c op a b hc.1 hc.2, ?_⟩
      rintro r τ ⟨rfl, rfl⟩
      refine stp_j hJ 2 ⟨Or.inr rfl, Or.inl ⟨rfl, hc.1, hc.2, hi⟩, fun _ => ⟨al, sp, rd, en, ts, h.1, h.2.1, h.2.2.1, h.2.2.2.1, h.2.2.2.2.1, h.2.2.2.2.2.1, h.2.2.2.2.2.2.1, ?_, h.2.2.2.2.2.2.2.2.1, h.2.2.2.2.2.2.2.2.2⟩, fun z => absurd ⟨hc.1, hc.2, hi⟩ z⟩
      intro k hk p hp
      have old := h.2.2.2.2.2.2.2.1 k hk p hp
      show u3 (u3 (u3 σ.1 2 0 c.toNatClampNeg op) 2 1 c.toNatClampNeg a) 2 2 c.toNatClampNeg b 2 k p = if p = c.toNatClampNeg then (if k = 0 then op else if k = 1 then a else b) else yC y k p
      by_cases e : p = c.toNatClampNeg
      · rw [if_pos e]
        rcases (show k = 0 ∨ k = 1 ∨ k = 2 by omega) with rfl | rfl | rfl <;> simp [u3, e]
      · rw [if_neg e, u3_n _ _ (fun z => e z.2.2), u3_n _ _ (fun z => e z.2.2), u3_n _ _ (fun z => e z.2.2)]
        exact old
    · refine stp_j hJ 1 ⟨fun z => absurd rfl z, fun _ => ?_⟩
      exact no (fun z => hi z.2.2)
  · refine stp_j hJ 1 ⟨fun _ => ?_, fun z => absurd rfl z⟩
    exact no (fun z => hc ⟨z.1, z.2.1⟩)
def ySpawnP (y : Yd) (et ar : Int32) : Yd × Int32 := if 0 ≤ et ∧ et < 48 then (if (yA y).length < 8 then (yNew y et ar 0, yL y + 1) else (y, -2)) else (y, -1)
theorem p_spawn {σ : mS} {y : Yd} (h : RC σ y) (q : Full y) (hL : (yL y).toInt < 2147483647) (et ar : Int32) : Meets clC yX6_spawn (kX6_spawn :: wT) rX6_spawn [mR 0 0, mI et, mI ar] σ (fun r τ => r = some (mI (ySpawnP y et ar).2) ∧ RC τ (ySpawnP y et ar).1) := by
  have h0 := h
  obtain ⟨al, sp, rd, en, ts, h⟩ := h
  refine Meets.of SX6_spawn rfl (by decide) rfl (Nat.le_of_ble_eq_true rfl) ?_
  intro J hJ
  have hlen := h.cells3
  have hyl : (yA y).length = al.length := by rw [← h.2.2.1.1, List.length_map]
  refine stp_j hJ 2 ⟨trivial, rfl, _, c_Code_isCell σ et, ?_⟩
  rintro r τ ⟨w, hy⟩
  have w := w.symm
  subst w
  rcases hy with ⟨rfl, hc⟩ | ⟨rfl, hc⟩
  · refine stp_j hJ 1 ⟨fun _ => ?_, fun z => absurd (by decide) z⟩
    refine stp_j hJ 5 ⟨i0, i3 (by decide), _, h.1.2.1.1, fun h2 => ?_, fun h2 => ?_⟩
    · have h2 : 1 ≤ sp.length := (nI_leI (a := 1) (by decide) (by omega)).mp h2
      have hb : yBegin y et ar 0 = (yNew y et ar 0, some (yL y + 1)) := by rw [yBegin, if_pos (by omega)]
      refine stp_j hJ 5 ⟨trivial, ⟨i0, trivial⟩, _, c_beginActor h q.1.1 (fun k hk => (q.1.2.2.2.2.2.2.1 k hk).2) q.1.2.2.2.2.2.1 q.2.2.1 hL et ar 0, ?_⟩
      rintro r τ ⟨al', sp', rd', f, rfl, -, -⟩
      rw [hb] at f ⊢
      refine stp_j hJ 1 ⟨?_, ?_⟩
      · rw [ySpawnP, if_pos hc, if_pos (by omega)]
        rfl
      · rw [ySpawnP, if_pos hc, if_pos (by omega)]
        exact ⟨al', sp', rd', en, ts, f⟩
    · have h2 : ¬ 1 ≤ sp.length := fun z => h2 ((nI_leI (a := 1) (by decide) (by omega)).mpr z)
      refine stp_j hJ 2 ⟨?_, ?_⟩
      · rw [ySpawnP, if_pos hc, if_neg (by omega)]
      · rw [ySpawnP, if_pos hc, if_neg (by omega)]
        exact h0
  · refine stp_j hJ 1 ⟨fun z => absurd rfl z, fun _ => ?_⟩
    refine stp_j hJ 2 ⟨?_, ?_⟩
    · rw [ySpawnP, if_neg hc]
    · rw [ySpawnP, if_neg hc]
      exact h0
def yInject (y : Yd) (d v : Int32) : Yd × Int32 := if d ∈ yA y then (if yR y = 0 then (y, -2) else (yDel y d 0 v, 1)) else (y, -3)
theorem p_inject {σ : mS} {y : Yd} (h : RC σ y) (q : Full y) (d v : Int32) : Meets clC yX6_inject (kX6_inject :: wT) rX6_inject [mR 0 0, mI d, mI v] σ (fun r τ => r = some (mI (yInject y d v).2) ∧ RC τ (yInject y d v).1) := by
  have h0 := h
  obtain ⟨al, sp, rd, en, ts, h⟩ := h
  refine Meets.of SX6_inject rfl (by decide) rfl (Nat.le_of_ble_eq_true rfl) ?_
  intro J hJ
  refine stp_j hJ 4 ⟨i0, trivial, ⟨i3 (by decide), trivial⟩, _, c_Line_find (by decide) h.1.1 d, ?_⟩
  rintro r τ ⟨w, rfl⟩
  have w := w.symm
  subst w
  rcases h.find d with ⟨i, hf, hi, e, hv⟩ | ⟨hf, hv⟩
  · rw [hf]
    have qr := q.1.2.2.1
    unfold InvR at qr
    refine stp_j hJ 3 ?_
    refine stp_j hJ 4 ⟨i0, _, h.2.2.2.2.2.2.2.2.1.2.1, fun h1 => ?_, fun h1 => ?_⟩
    · have hR : 1 ≤ yR y := (nI_leI (a := 1) (by decide) (by omega)).mp h1
      refine stp_j hJ 5 ⟨trivial, ⟨i0, trivial⟩, _, c_deliver h q.1.1 q.1.2.1 q.1.2.2.1 hi 0 v, ?_⟩
      rintro r τ ⟨rfl, ⟨rd', ts', f⟩, -⟩
      rw [e] at f
      refine stp_j hJ 2 ⟨?_, ?_⟩
      · rw [yInject, if_pos hv, if_neg (by omega)]
      · rw [yInject, if_pos hv, if_neg (by omega)]
        exact ⟨al, sp, rd', en, ts', f⟩
    · have hR : yR y = 0 := by
        have : ¬ 1 ≤ yR y := fun z => h1 ((nI_leI (a := 1) (by decide) (by omega)).mpr z)
        omega
      refine stp_j hJ 2 ⟨?_, ?_⟩
      · rw [yInject, if_pos hv, if_pos hR]
      · rw [yInject, if_pos hv, if_pos hR]
        exact h0
  · rw [hf]
    refine stp_j hJ 5 ⟨?_, ?_⟩
    · rw [yInject, if_neg hv]
    · rw [yInject, if_neg hv]
      exact h0
theorem p_step {σ : mS} {y : Yd} (h : RC σ y) (q : Full y) (qc : CodeOk y) (hL : (yL y).toInt + 1002 < 2147483647) (hN : yN y < 2 ^ 31) : Meets clC yX6_step (kX6_step :: wT) rX6_step [mR 0 0] σ (fun r τ => r = some (mI (yStep y).2) ∧ RC τ (yStep y).1) := by
  obtain ⟨al, sp, rd, en, ts, h⟩ := h
  refine Meets.of SX6_step rfl (by decide) rfl (Nat.le_of_ble_eq_true rfl) ?_
  intro J hJ
  refine stp_j hJ 2 ⟨trivial, ⟨i0, trivial⟩, _, c_advance h q qc hL hN, ?_⟩
  rintro r τ ⟨rfl, f⟩
  exact stp_j hJ 1 ⟨rfl, f⟩
/-! a step keeps what holds -/
theorem yC_settle {y : Yd} (q : Full y) : yC (ySettle y) = yC y := by
  cases hE : yE y with
  | nil =>
    have hs : ySettle y = y := by unfold ySettle; rw [hE]
    rw [hs]
  | cons e l =>
    obtain ⟨x, r⟩ := e
    have hs : ySettle y = if r = 0 then yOrph x (yA (yBury y x)) (yExits x r (yA (yBury y x)) (yBury y x)) else yTell (yOrph x (yA (yBury y x)) (yExits x r (yA (yBury y x)) (yBury y x))) x := by unfold ySettle; rw [hE]
    rw [hs]
    clear hs
    have q1 := q.1.bury hE
    obtain ⟨a1, a2, a3, a4, a5, a6, a7, a8, -⟩ := exits_inv x r (yA (yBury y x)) (yBury y x) q1 q.2.1 (fun _ hz => hz)
    obtain ⟨b1, b2, b3, b4, b5, b6, b7, b8⟩ := orph_inv x (yA (yBury y x)) (yExits x r (yA (yBury y x)) (yBury y x)) a1 (fun w hw => by rw [a4]; exact hw)
    generalize yExits x r (yA (yBury y x)) (yBury y x) = y2 at *
    generalize yOrph x (yA (yBury y x)) y2 = y3 at *
    have e3 : yC y3 = yC y := b7.trans a8
    split
    · exact e3
    · unfold yTell
      split
      · split
        · exact (yC_begin (yHist y3 (yF y3 2 x)) _ _ _).trans e3
        · exact (yC_end _ _ _).trans e3
      · exact e3
theorem settles_full : ∀ (n : Nat) (y : Yd), Full y → (yL y).toInt + n < 2147483647 → Full (ySettles n y) ∧ yC (ySettles n y) = yC y ∧ yN (ySettles n y) = yN y ∧ (yL (ySettles n y)).toInt ≤ (yL y).toInt + n
  | 0, y, q, _ => ⟨q, rfl, rfl, by show (yL y).toInt ≤ _; omega⟩
  | n + 1, y, q, hl => by
    cases hE : yE y with
    | nil =>
      have hs : ySettles (n + 1) y = y := by unfold ySettles; rw [hE]
      rw [hs]
      exact ⟨q, rfl, rfl, by omega⟩
    | cons e l =>
      have hs : ySettles (n + 1) y = ySettles n (ySettle y) := by
        conv => lhs; unfold ySettles
        rw [hE]
      rw [hs]
      obtain ⟨g1, g2, g3⟩ := q.settle (by omega)
      have hs1 := toInt_succ (x := yL y) (by omega)
      have hl2 : (yL (ySettle y)).toInt ≤ (yL y).toInt + 1 := by
        rcases g2 with z | z
        · rw [z]; omega
        · rw [z]; omega
      obtain ⟨a1, a2, a3, a4⟩ := settles_full n (ySettle y) g1 (by omega)
      exact ⟨a1, a2.trans (yC_settle q), a3.trans g3, by omega⟩
theorem step_full {y : Yd} (q : Full y) (qc : CodeOk y) (hL : (yL y).toInt + 1002 < 2147483647) : Full (yStep y).1 ∧ CodeOk (yStep y).1 ∧ yN (yStep y).1 = yN y ∧ (yL (yStep y).1).toInt ≤ (yL y).toInt + 1001 := by
  cases hQ : yQ y with
  | nil =>
    have hs : yStep y = (y, 0) := by unfold yStep; rw [hQ]
    rw [hs]
    exact ⟨q, qc, rfl, by show (yL y).toInt ≤ _; omega⟩
  | cons x l =>
    have hs : yStep y = (yTurn (ySettles 1000 (yPerf (setF y 4 x (yF y 4 x + 1)) x)) x, x) := by unfold yStep; rw [hQ]
    rw [hs]
    have q1 : Full (setF y 4 x (yF y 4 x + 1)) := q
    have hx : x ∈ yQ y := by rw [hQ]; exact List.mem_cons_self
    have q2 : Full (yPerf (setF y 4 x (yF y 4 x + 1)) x) := q1.perf (by show (yL y).toInt < _; omega) hx
    have l2 : (yL (yPerf (setF y 4 x (yF y 4 x + 1)) x)).toInt ≤ (yL y).toInt + 1 := by
      have hs1 := toInt_succ (x := yL y) (by omega)
      rcases yL_perf (setF y 4 x (yF y 4 x + 1)) x with z | z
      · rw [z]; show (yL y).toInt ≤ _; omega
      · rw [z]; show (yL y + 1).toInt ≤ _; omega
    have c2 : yC (yPerf (setF y 4 x (yF y 4 x + 1)) x) = yC y := yC_perf _ x
    have n2 : yN (yPerf (setF y 4 x (yF y 4 x + 1)) x) = yN y := yN_perf _ x
    generalize yPerf (setF y 4 x (yF y 4 x + 1)) x = y2 at *
    obtain ⟨a1, a2, a3, a4⟩ := settles_full 1000 y2 q2 (by omega)
    generalize ySettles 1000 y2 = y3 at *
    have eC : yC (yTurn y3 x) = yC y3 := by unfold yTurn; split <;> rfl
    have eN : yN (yTurn y3 x) = yN y3 := by unfold yTurn; split <;> rfl
    have eL : yL (yTurn y3 x) = yL y3 := by unfold yTurn; split <;> rfl
    refine ⟨a1.turn x, ?_, eN.trans (a3.trans n2), ?_⟩
    · unfold CodeOk
      rw [show yC (yTurn y3 x) = yC y from eC.trans (a2.trans c2)]
      exact qc
    · show (yL (yTurn y3 x)).toInt ≤ _
      rw [eL]
      omega
theorem p_run {σ : mS} {y : Yd} (h : RC σ y) (q : Full y) (qc : CodeOk y) (hL : (yL y).toInt + 41100 < 2147483647) (hN : yN y < 2 ^ 31) (n : Int32) : Meets clC yX6_run (kX6_run :: wT) rX6_run [mR 0 0, mI n] σ (fun r τ => r = some (mI (if n < 0 ∨ 40 < n then (y, -1) else yRun n.toNatClampNeg y 0).2) ∧ RC τ (if n < 0 ∨ 40 < n then (y, -1) else yRun n.toNatClampNeg y 0).1) := by
  refine Meets.of SX6_run rfl (by decide) rfl (Nat.le_of_ble_eq_true rfl) ?_
  intro J hJ
  have no : (n < 0 ∨ 40 < n) → J σ 10 [(0, mR 0 0), (1, mI n)] [] := fun z => stp_j hJ 2 ⟨by rw [if_pos z], by rw [if_pos z]; exact h⟩
  refine stp_j hJ 2 ⟨fun z => no (Or.inl z), fun h1 => ?_⟩
  refine stp_j hJ 3 ⟨fun h2 => ?_, fun h2 => no (Or.inr (Int32.not_le.mp h2))⟩
  have ok : ¬ (n < 0 ∨ 40 < n) := fun z => z.elim h1 (fun z => absurd h2 (Int32.not_le.mpr z))
  obtain ⟨N, hN40, rfl⟩ := nI_of2 (M := 40) (n := 40) rfl h1 h2
  have hcl : (nI N).toNatClampNeg = N := nI_clamp (by omega)
  have loop : ∀ (m k : Nat) (τ : mS) (y' : Yd), k + m = N → RC τ y' → Full y' → CodeOk y' → (yL y').toInt + 1002 * (m + 1) < 2147483647 → yN y' = yN y → yRun m y' (nI k) = yRun N y 0 → J τ 14 [(0, mR 0 0), (1, mI (nI N)), (2, mI (nI k))] [] := by
    intro m
    induction m with
    | zero =>
      intro k τ y' hk hr qy qcy hl hNy hy
      have ek : k = N := by omega
      subst ek
      refine stp_j hJ 3 ⟨fun _ => ?_, fun z => absurd (nI_le (Nat.le_refl k) (by omega)) z⟩
      refine stp_j hJ 2 ⟨?_, ?_⟩
      · rw [if_neg ok, hcl, ← hy]
        rfl
      · rw [if_neg ok, hcl, ← hy]
        exact hr
    | succ m ih =>
      intro k τ y' hk hr qy qcy hl hNy hy
      refine stp_j hJ 3 ⟨fun z => absurd z (nI_ge (by omega) (by omega)), fun _ => ?_⟩
      obtain ⟨al, sp, rd, en, ts, f⟩ := id hr
      refine stp_j hJ 2 ⟨trivial, ⟨i0, trivial⟩, _, c_advance f qy qcy (by omega) (by rw [hNy]; exact hN), ?_⟩
      rintro r υ ⟨rfl, f2⟩
      obtain ⟨g1, g2, g3, g4⟩ := step_full qy qcy (by omega)
      have hr2 : yRun (m + 1) y' (nI k) = if (yStep y').2 = 0 then ((yStep y').1, nI k) else yRun m (yStep y').1 (nI k + 1) := rfl
      rw [hr2] at hy
      refine stp_j hJ 1 ⟨fun h3 => ?_, fun h3 => ?_⟩
      · rw [if_neg h3, nI_1] at hy
        refine stp_j hJ 2 ⟨_, nI_1 k, ?_⟩
        exact ih (k + 1) υ _ (by omega) f2 g1 g2 (by omega) (g3.trans hNy) hy
      · have h3 : (yStep y').2 = 0 := Decidable.not_not.mp h3
        rw [if_pos h3] at hy
        refine stp_j hJ 2 ⟨?_, ?_⟩
        · rw [if_neg ok, hcl, ← hy]
        · rw [if_neg ok, hcl, ← hy]
          exact f2
  exact stp_j hJ 2 (loop N 0 σ y (by omega) h q qc (by omega) rfl rfl)
