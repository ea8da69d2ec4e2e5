/-! A step -/
theorem yC_begin (y : Yd) (et ar ov : Int32) : yC (yBegin y et ar ov).1 = yC y := by
  unfold yBegin
  split
  · exact yC_new y et ar ov
  · rfl
theorem yC_act (y : Yd) (i op a b : Int32) : yC (yAct y i op a b) = yC y := by
  have sp : ∀ ov, yC (ySpawn y i a b ov) = yC y := fun ov => by
    have := yC_begin y b (yF y (rg a) i) ov
    unfold ySpawn
    cases hc : yBegin y b (yF y (rg a) i) ov with
    | mk z o =>
      rw [hc] at this
      cases o <;> exact this
  refine act_cases (P := fun z => yC z = yC y) y i op a b rfl rfl ?_ rfl ?_ ?_ (sp 0) (sp i) ?_ rfl (yC_end _ _ _) ?_ rfl ?_
  · split <;> rfl
  · split
    · exact yC_del _ _ _ _
    · rfl
  · unfold yTake
    split
    · rfl
    · split
      · unfold yClock
        split <;> rfl
      · rfl
  · unfold yLink
    split
    · exact yC_exit _ _ _ _
    · split
      · rfl
      · split <;> rfl
  · unfold yPut
    split <;> rfl
  · unfold yClock
    split <;> rfl
theorem yC_perf (y : Yd) (i : Int32) : yC (yPerf y i) = yC y := by
  unfold yPerf
  split
  · exact yC_act (setF y 3 i _) i _ _ _
  · exact yC_end _ _ _
/-- instructions done: as before, or none -/
def DN (y y' : Yd) : Prop := ∀ z, yF y' 4 z = yF y 4 z ∨ yF y' 4 z = 0
theorem DN.rf {y y' : Yd} (h : ∀ z, yF y' 4 z = yF y 4 z) : DN y y' := fun z => Or.inl (h z)
theorem DN.tr {y y' y'' : Yd} (h1 : DN y y') (h2 : DN y' y'') : DN y y'' := fun z => by
  rcases h2 z with e | e
  · rw [e]
    exact h1 z
  · exact Or.inr e
theorem DN.del (y : Yd) (i s v : Int32) : DN y (yDel y i s v) := by
  intro z
  unfold yDel
  split
  · exact Or.inl rfl
  · split
    · show up2 (yF y) 4 i 0 4 z = _ ∨ up2 (yF y) 4 i 0 4 z = 0
      rw [up2_same]
      split
      · exact Or.inr rfl
      · exact Or.inl rfl
    · exact Or.inl rfl
theorem DN.end_ (y : Yd) (i r : Int32) : DN y (yEnd y i r) := DN.rf (fun z => by rw [yF_end])
theorem DN.exit (y : Yd) (i s r : Int32) : DN y (yExit y i s r) := by
  unfold yExit
  split
  · exact DN.del y i s r
  · split
    · exact DN.rf (fun _ => rfl)
    · exact DN.end_ y i r
theorem DN.exits (x r : Int32) : ∀ (l : List Int32) (y : Yd), DN y (yExits x r l y)
  | [], _ => DN.rf (fun _ => rfl)
  | z :: l, y => by
    unfold yExits
    split
    · exact (DN.exit (yCut y z x) z x r).tr (DN.exits x r l _)
    · exact DN.exits x r l y
theorem yF_new4 (y : Yd) (et ar ov z : Int32) : yF (yNew y et ar ov) 4 z = if z = yL y + 1 then 0 else yF y 4 z := by
  have e1 : yF (yNew y et ar ov) = up2 (fun n j => if j = yL y + 1 then nF et ar ov n else yF y n j) 4 (yL y + 1) 0 := by simp only [yNew, yReady, setF, setB, yFvQ, yFvF, yFvB, yFvA, yFvL, yFvH]
  rw [e1, up2_same]
  split <;> rfl
/-- those begun since L0 have done nothing -/
def BD (L : Int32) (y : Yd) : Prop := ∀ z ∈ yA y, L < z → yF y 4 z = 0
theorem BD.dn {L : Int32} {y y' : Yd} (h : BD L y) (d : DN y y') (hA : ∀ z ∈ yA y', z ∈ yA y) : BD L y' := fun z hz hl => by
  rcases d z with e | e
  · rw [e]
    exact h z (hA z hz) hl
  · exact e
theorem BD.begin {L : Int32} {y : Yd} (h : BD L y) (et ar ov : Int32) : BD L (yBegin y et ar ov).1 := by
  unfold yBegin
  split
  · intro z hz hl
    show yF (yNew y et ar ov) 4 z = 0
    rw [yF_new4]
    split
    · rfl
    · rename_i hne
      have hz : z ∈ yA (yNew y et ar ov) := hz
      rw [yA_new] at hz
      rcases List.mem_append.mp hz with hz | hz
      · exact h z hz hl
      · exact absurd (List.mem_singleton.mp hz) hne
  · exact h
theorem BD.act {L : Int32} {y : Yd} (h : BD L y) (i op a b : Int32) : BD L (yAct y i op a b) := by
  have rgn : ∀ c : Int32, ¬ 4 = rg c := fun c z => by unfold rg at z; omega
  have sf : ∀ {n : Nat} {v : Int32}, ¬ 4 = n → BD L (setF y n i v) := fun hn => h.dn (DN.rf (fun z => by
    show up2 (yF y) _ i _ 4 z = _
    unfold up2
    rw [if_neg (fun w => hn w.1)])) (fun _ hz => hz)
  have sp : ∀ ov, BD L (ySpawn y i a b ov) := fun ov => by
    have hb := h.begin b (yF y (rg a) i) ov
    unfold ySpawn
    cases hc : yBegin y b (yF y (rg a) i) ov with
    | mk z o =>
      rw [hc] at hb
      have sf2 : ∀ v, BD L (setF z (rg a) i v) := fun v => BD.dn hb (DN.rf (fun w => by
        show up2 (yF z) (rg a) i v 4 w = _
        unfold up2
        rw [if_neg (fun u => rgn a u.1)])) (fun _ hz => hz)
      cases o
      · exact sf2 _
      · exact sf2 _
  refine act_cases (P := fun z => BD L z) y i op a b (sf (rgn a)) (sf (rgn a)) ?_ (sf (by decide)) ?_ ?_ (sp 0) (sp i) ?_ h ?_ ?_ (sf (rgn a)) ?_
  · split
    · exact sf (by decide)
    · exact h
  · split
    · exact h.dn (DN.del _ _ _ _) (fun z hz => by rw [yA_del] at hz; exact hz)
    · exact h
  · unfold yTake
    split
    · rename_i m ms hm
      refine BD.dn (y := setF (setF y 11 i m.2.1) (rg a) i m.2.2) ?_ (DN.rf (fun _ => rfl)) (fun _ hz => hz)
      refine h.dn (DN.rf (fun z => ?_)) (fun _ hz => hz)
      show up2 (up2 (yF y) 11 i m.2.1) (rg a) i m.2.2 4 z = _
      unfold up2
      rw [if_neg (fun u => rgn a u.1), if_neg (fun u => absurd u.1 (by decide))]
    · have h1 : BD L (setF y 3 i (yF y 3 i - 1)) := sf (by decide)
      split
      · unfold yClock
        split <;> exact h1
      · exact h1
  · unfold yLink
    split
    · exact h.dn (DN.exit _ _ _ _) (fun z hz => by rw [yA_exit] at hz; exact hz)
    · split
      · exact h
      · split
        · exact sf (rgn a)
        · exact h
  · exact h.dn (DN.end_ _ _ _) (fun z hz => by rw [yA_end] at hz; exact hz)
  · unfold yPut
    split <;> exact h
  · unfold yClock
    split <;> exact h
theorem BD.perf {L : Int32} {y : Yd} (h : BD L y) (i : Int32) : BD L (yPerf y i) := by
  unfold yPerf
  split
  · have h1 : BD L (setF y 3 i (yF y 3 i + 1)) := h.dn (DN.rf (fun z => by
      show up2 (yF y) 3 i (yF y 3 i + 1) 4 z = yF y 4 z
      unfold up2
      rw [if_neg (fun u => absurd u.1 (by decide))])) (fun _ hz => hz)
    exact h1.act i _ _ _
  · exact h.dn (DN.end_ _ _ _) (fun z hz => by rw [yA_end] at hz; exact hz)
theorem BD.settle {L : Int32} {y : Yd} (q : Full y) (h : BD L y) : BD L (ySettle y) := by
  cases hE : yE y with
  | nil =>
    have hs : ySettle y = y := by unfold ySettle; rw [hE]
    rw [hs]
    exact h
  | cons e l =>
    obtain ⟨x, r⟩ := e
    have hs : ySettle y = if r = 0 then yOrph x (yA (yBury y x)) (yExits x r (yA (yBury y x)) (yBury y x)) else yTell (yOrph x (yA (yBury y x)) (yExits x r (yA (yBury y x)) (yBury y x))) x := by unfold ySettle; rw [hE]
    rw [hs]
    clear hs
    have q1 := q.1.bury hE
    obtain ⟨a1, a2, a3, a4, -⟩ := exits_inv x r (yA (yBury y x)) (yBury y x) q1 q.2.1 (fun _ hz => hz)
    obtain ⟨b1, b2, b3, b4, b5, b6, b7, b8⟩ := orph_inv x (yA (yBury y x)) (yExits x r (yA (yBury y x)) (yBury y x)) a1 (fun w hw => by rw [a4]; exact hw)
    have h1 : BD L (yBury y x) := h.dn (DN.rf (fun _ => rfl)) (fun z hz => List.mem_of_mem_erase hz)
    have h2 := h1.dn (DN.exits x r (yA (yBury y x)) (yBury y x)) (fun z hz => by rw [a4] at hz; exact hz)
    generalize yExits x r (yA (yBury y x)) (yBury y x) = y2 at *
    have h3 := h2.dn (y' := yOrph x (yA (yBury y x)) y2) (DN.rf (fun z => by rw [b8])) (fun z hz => by rw [b3] at hz; exact hz)
    generalize yOrph x (yA (yBury y x)) y2 = y3 at *
    by_cases hr : r = 0
    · rw [if_pos hr]
      exact h3
    · rw [if_neg hr]
      unfold yTell
      split
      · split
        · have h4 : BD L (yHist y3 (yF y3 2 x)) := h3.dn (DN.rf (fun z => by
            show up2 (yF y3) 5 (yF y3 2 x) (yF y3 5 (yF y3 2 x) + 1) 4 z = yF y3 4 z
            unfold up2
            rw [if_neg (fun u => absurd u.1 (by decide))])) (fun _ hz => hz)
          exact h4.begin _ _ _
        · exact h3.dn (DN.end_ _ _ _) (fun z hz => by rw [yA_end] at hz; exact hz)
      · exact h3
theorem toInt_succ {x : Int32} (h : x.toInt < 2147483647) : (x + 1).toInt = x.toInt + 1 := by
  rw [Int32.toInt_add]
  have h3 := Int32.le_toInt x
  have e1 : (1 : Int32).toInt = 1 := rfl
  rw [e1, Int.bmod_eq_of_le (by omega) (by omega)]
section ADV
variable {σ : mS} {y : Yd} {al sp rd en : List Nat} {ts : List mT}
theorem c_advance (h : RCw σ y al sp rd en ts RC0) (q : Full y) (qc : CodeOk y) (hL : (yL y).toInt + 1002 < 2147483647) (hN : yN y < 2 ^ 31) : Meets clC yX6_advance (kX6_advance :: wT) rX6_advance [mR 0 0] σ (fun o τ => o = some (mI (yStep y).2) ∧ ∃ al' sp' rd' en' ts', RCw τ (yStep y).1 al' sp' rd' en' ts' RC0) := by
  refine Meets.of SX6_advance rfl (by decide) rfl (Nat.le_of_ble_eq_true rfl) ?_
  intro J hJ
  refine stp_j hJ 4 ⟨i0, trivial, ⟨i3 (by decide), trivial⟩, _, c_Line_at (by decide) h.1.2.2.1 0, ?_⟩
  rintro o τ ⟨w, rfl⟩
  have w := w.symm
  subst w
  cases rd with
  | nil =>
    have hq : yQ y = [] := by rw [← h.2.2.1.2.1]; rfl
    have hs : yStep y = (y, 0) := by unfold yStep; rw [hq]
    refine stp_j hJ 5 ⟨?_, al, sp, [], en, ts, ?_⟩
    · rw [hs]
    · rw [hs]
      exact h
  | cons i rd0 =>
    have hi : i ∈ al := h.2.1.2.2.1 i List.mem_cons_self
    have h8 := h.lt8 hi
    obtain ⟨x, hx⟩ : ∃ x, x = idS σ i := ⟨_, rfl⟩
    have hq : yQ y = x :: rd0.map (idS σ) := by rw [← h.2.2.1.2.1, hx]; rfl
    have hxQ : x ∈ yQ y := by rw [hq]; exact List.mem_cons_self
    have hxA : x ∈ yA y := q.1.1.2.2.1 x hxQ
    have hs : yStep y = (yTurn (ySettles 1000 (yPerf (setF y 4 x (yF y 4 x + 1)) x)) x, x) := by unfold yStep; rw [hq]
    have hdone := (h.2.2.2.1 i hi).1.2.2.2.2.1
    rw [← hx] at hdone
    have f1 := h.done q.1.1.1 hi (yF y 4 x + 1)
    rw [← hx] at f1
    refine stp_j hJ 3 ?_
    refine stp_j hJ 3 ⟨i5 h8, _, hx.symm, ?_⟩
    refine stp_j hJ 6 ⟨i5 h8, _, hdone, _, rfl, i5 h8, ?_⟩
    have q1 : Full (setF y 4 x (yF y 4 x + 1)) := q
    refine stp_j hJ 3 ⟨trivial, ⟨i0, trivial⟩, _, c_perform f1 q1 qc (by show (yL y).toInt < _; omega) hN hi, ?_⟩
    rintro o τ ⟨rfl, al1, sp1, rd1, en1, ts1, f2, st1⟩
    have eid : idS (sI σ 5 i 11 (yF y 4 x + 1)) i = x := hx.symm
    rw [eid] at f2
    obtain ⟨y2, hy2⟩ : ∃ y2, y2 = yPerf (setF y 4 x (yF y 4 x + 1)) x := ⟨_, rfl⟩
    rw [← hy2] at f2
    have q2 : Full y2 := by rw [hy2]; exact q1.perf (by show (yL y).toInt < _; omega) hxQ
    have l2 : yL y2 = yL y ∨ yL y2 = yL y + 1 := by rw [hy2]; exact yL_perf (setF y 4 x (yF y 4 x + 1)) x
    have n2 : yN y2 = yN y := by rw [hy2]; exact yN_perf (setF y 4 x (yF y 4 x + 1)) x
    have b2 : BD (yL y) y2 := by
      rw [hy2]
      refine BD.perf ?_ x
      intro z hz hl
      exact absurd (q.1.2.2.2.2.2.2.1 z hz).2 (Int32.not_le.mpr hl)
    have st1 : Stab al σ al1 τ (yL y) := (Stab.rf (L := yL y) (h.same f1 rfl)).tr st1 (Int32.le_refl _)
    have fin : ∀ (τ : mS) (y' : Yd) (al' sp' rd' en' : List Nat) (ts' : List mT), RCw τ y' al' sp' rd' en' ts' RC0 → Full y' → Stab al σ al' τ (yL y) → BD (yL y) y' → y' = ySettles 1000 y2 → ∀ w, J τ 73 [(0, mR 0 0), (1, mR 5 i), (2, mI x), (3, w)] [] := by
      intro τ y' al' sp' rd' en' ts' f qy st bd hy w
      have ret : ∀ {υ : mS} {al'' sp'' rd'' en'' : List Nat} {ts'' : List mT}, RCw υ (yTurn y' x) al'' sp'' rd'' en'' ts'' RC0 → J υ 106 [(0, mR 0 0), (1, mR 5 i), (2, mI x), (3, w)] [] := by
        intro υ al'' sp'' rd'' en'' ts'' f3
        refine stp_j hJ 2 ⟨?_, al'', sp'', rd'', en'', ts'', ?_⟩
        · rw [hs]
        · rw [hs, ← hy2, ← hy]
          exact f3
      have no : ¬ ((yQ y').head? = some x ∧ 5 ≤ yF y' 4 x) → J τ 106 [(0, mR 0 0), (1, mR 5 i), (2, mI x), (3, w)] [] := fun hn => ret (by rw [yTurn, if_neg hn]; exact f)
      refine stp_j hJ 4 ⟨i0, trivial, ⟨i3 (by decide), trivial⟩, _, c_Line_at (by decide) f.1.2.2.1 0, ?_⟩
      rintro o υ ⟨e, rfl⟩
      have e := e.symm
      subst e
      cases rd' with
      | nil =>
        have hq' : yQ y' = [] := by rw [← f.2.2.1.2.1]; rfl
        refine stp_j hJ 2 ⟨fun u e => (by cases e), fun u e => (by cases e; exact i5 h8), fun e => absurd e (by intro z; cases z), fun _ => ?_⟩
        exact no (fun z => by rw [hq'] at z; exact absurd z.1 (by simp))
      | cons k rd'' =>
        have hk : k ∈ al' := f.2.1.2.2.1 k List.mem_cons_self
        have k8 := f.lt8 hk
        have hq' : yQ y' = idS τ k :: rd''.map (idS τ) := by rw [← f.2.2.1.2.1]; rfl
        refine stp_j hJ 2 ⟨fun u e => by cases e; exact i5 k8, fun u e => by cases e; exact i5 h8, fun e => ?_, fun e => ?_⟩
        · have e : k = i := by cases e; rfl
          subst e
          have hd := (f.2.2.2.1 k hk).1.2.2.2.2.1
          rcases st k hk with ⟨-, e2⟩ | e2
          · have ek : idS τ k = x := e2.trans hx.symm
            rw [ek] at hd
            refine stp_j hJ 4 ⟨i5 h8, _, hd, fun h2 => ?_, fun h2 => ?_⟩
            · exact no (fun z => absurd z.2 (Int32.not_le.mpr h2))
            · have h5 : 5 ≤ yF y' 4 x := Int32.not_lt.mp h2
              refine stp_j hJ 4 ⟨i0, trivial, ⟨i3 (by decide), trivial⟩, _, c_Line_remove (by decide) f.1.2.2.1 h8, ?_⟩
              rintro o υ ⟨rfl, c, hl⟩
              have ndr := f.ndR qy.1.1.2.1
              have f3 := f.queue c hl (fun a ha => f.2.1.2.2.1 a (List.mem_of_mem_erase ha))
              have em : ((k :: rd'').erase k).map (idS τ) = (yQ y').erase x := by
                rw [map_erase_inj (fun a ha e => f.inj qy.1.1.1 (f.2.1.2.2.1 a ha) hk e), f.2.2.1.2.1, ek]
              rw [em] at f3
              have hnk : ¬ k ∈ (k :: rd'').erase k := nd_erase ndr
              have eu : idS υ k = x := (f.same f3 rfl k hk).trans ek
              refine stp_j hJ 3 ⟨trivial, ⟨i0, trivial⟩, _, c_makeReady f3 qy.1.1.1 (qy.1.1.2.1.erase x) hk hnk, ?_⟩
              rintro o ω ⟨rfl, f4, -⟩
              rw [eu] at f4
              have f5 : RCw ω (yTurn y' x) al' sp' ((k :: rd'').erase k ++ [k]) en' ts' RC0 := by
                rw [yTurn, if_pos ⟨by rw [hq', ek]; rfl, h5⟩]
                exact f4
              exact ret f5
          · have hz : yF y' 4 (idS τ k) = 0 := bd _ (f.mA hk) e2
            rw [hz] at hd
            have hne : ¬ idS τ k = x := fun z => by
              rw [z] at e2
              exact absurd (q.1.2.2.2.2.2.2.1 x hxA).2 (Int32.not_le.mpr e2)
            refine stp_j hJ 4 ⟨i5 h8, _, hd, fun _ => ?_, fun h2 => absurd (by decide) h2⟩
            exact no (fun z => by rw [hq'] at z; exact hne (Option.some.inj z.1))
        · have hne : ¬ k = i := fun z => e (by rw [z]; rfl)
          refine no (fun z => ?_)
          rw [hq'] at z
          have z1 : idS τ k = x := Option.some.inj z.1
          rcases st k hk with ⟨hka, e2⟩ | e2
          · exact hne (h.inj q.1.1.1 hka hi (e2.symm.trans (z1.trans hx)))
          · rw [z1] at e2
            exact absurd (q.1.2.2.2.2.2.2.1 x hxA).2 (Int32.not_le.mpr e2)
    have loop : ∀ (m n : Nat) (τ : mS) (y' : Yd) (al' sp' rd' en' : List Nat) (ts' : List mT), n + m = 1000 → RCw τ y' al' sp' rd' en' ts' RC0 → Full y' → (yL y').toInt + m < 2147483647 → yN y' = yN y → Stab al σ al' τ (yL y) → BD (yL y) y' → yL y ≤ yL y' → ySettles m y' = ySettles 1000 y2 → J τ 37 [(0, mR 0 0), (1, mR 5 i), (2, mI x), (3, mI (nI n))] [] := by
      intro m
      induction m with
      | zero =>
        intro n τ y' al' sp' rd' en' ts' hn f qy hl hNy st bd hle hy
        have en : n = 1000 := by omega
        subst en
        refine stp_j hJ 3 ⟨fun _ => ?_, fun z => absurd (by decide) z⟩
        exact fin τ y' al' sp' rd' en' ts' f qy st bd hy _
      | succ m ih =>
        intro n τ y' al' sp' rd' en' ts' hn f qy hl hNy st bd hle hy
        refine stp_j hJ 3 ⟨fun z => absurd z (nI_ge (b := 1000) (by omega) (by decide)), fun _ => ?_⟩
        refine stp_j hJ 4 ⟨i0, trivial, ⟨i3 (by decide), trivial⟩, _, c_Line_at (by decide) f.1.2.2.2 0, ?_⟩
        rintro o υ ⟨e, rfl⟩
        have e := e.symm
        subst e
        cases en' with
        | nil =>
          have hE : yE y' = [] := by rw [← f.2.2.1.2.2]; rfl
          refine stp_j hJ 1 ?_
          refine fin τ y' al' sp' rd' [] ts' f qy st bd ?_ _
          rw [← hy]
          unfold ySettles
          rw [hE]
        | cons e en0 =>
          have he8 := (f.1.2.2.2.2.2 0 e rfl).2
          refine stp_j hJ 1 ?_
          refine stp_j hJ 5 ⟨i0, trivial, ⟨i3 (by decide), trivial⟩, _, c_Line_at (by decide) f.1.2.2.2 0, ?_⟩
          rintro o υ ⟨e1, rfl⟩
          have e1 := e1.symm
          subst e1
          refine stp_j hJ 1 ⟨trivial, ⟨i0, trivial⟩, _, c_settle f qy.1 qy.2.1 qy.2.2.1 qy.2.2.2.1 (by omega) (by rw [hNy]; exact hN) rfl, ?_⟩
          rintro o υ ⟨rfl, al'', sp'', rd'', en'', ts'', f3, st3⟩
          obtain ⟨g1, g2, g3⟩ := qy.settle (by omega)
          have hs1 := toInt_succ (x := yL y') (by omega)
          refine stp_j hJ 2 ⟨_, nI_1 n, ?_⟩
          refine ih (n + 1) υ _ al'' sp'' rd'' en'' ts'' (by omega) f3 g1 ?_ (g3.trans hNy) (st.tr st3 hle) (BD.settle qy bd) ?_ ?_
          · rcases g2 with z | z
            · rw [z]; omega
            · rw [z]; omega
          · rcases g2 with z | z
            · rw [z]; exact hle
            · rw [z]; exact Int32.le_of_lt (Int32.lt_of_le_of_lt hle (l_lt (by omega)))
          · rw [← hy]
            have hE : yE y' = (idS τ e, τ.1 5 e 13) :: en0.map (fun k => (idS τ k, τ.1 5 k 13)) := by rw [← f.2.2.1.2.2]; rfl
            show _ = ySettles (m + 1) y'
            conv => rhs; unfold ySettles
            rw [hE]
    refine stp_j hJ 2 ?_
    have hs1 := toInt_succ (x := yL y) (by omega)
    refine loop 1000 0 τ y2 al1 sp1 rd1 en1 ts1 (by decide) f2 q2 ?_ n2 st1 b2 ?_ rfl
    · rcases l2 with z | z
      · rw [z]; omega
      · rw [z]; omega
    · rcases l2 with z | z
      · rw [z]; exact Int32.le_refl _
      · rw [z]; exact Int32.le_of_lt (l_lt (by omega))
end ADV
