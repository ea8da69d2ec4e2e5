/-! tick -/
section TICK
variable {σ : mS} {y : Yd} {al sp rd en : List Nat} {ts : List mT}
theorem RCw.now (h : RCw σ y al sp rd en ts RC0) {v : Int64} {n : Nat} (hv : v.toInt = (n : Int)) : RCw (sL σ 0 0 7 v) (vN y n) al sp rd en ts RC0 :=
  ⟨h.1, h.2.1, h.2.2.1, h.2.2.2.1, h.2.2.2.2.1, h.2.2.2.2.2.1, h.2.2.2.2.2.2.1, h.2.2.2.2.2.2.2.1, ⟨hv, h.2.2.2.2.2.2.2.2.1.2⟩, h.2.2.2.2.2.2.2.2.2⟩
theorem eraseIdx_map {α β : Type} (f : α → β) : ∀ (l : List α) (n : Nat), (l.eraseIdx n).map f = (l.map f).eraseIdx n
  | [], _ => rfl
  | _ :: _, 0 => rfl
  | a :: l, n + 1 => by
    show f a :: (l.eraseIdx n).map f = f a :: (l.map f).eraseIdx n
    rw [eraseIdx_map f l n]
/-- the owner of a limit waits, and has no other -/
theorem Full.ring {y : Yd} (h : Full y) {n : Nat} {t : Int32 × Int × Int32 × Bool} (ht : (yT y)[n]? = some t) : Full (yRing (vT y ((yT y).eraseIdx n)) t) := by
  have htm := List.mem_of_getElem? ht
  have hlt : n < (yT y).length := (List.getElem?_eq_some_iff.mp ht).1
  have hsub : ((yT y).eraseIdx n).Sublist (yT y) := List.eraseIdx_sublist _ _
  have hA := (h.1.2.2.2.2.1 t htm).1
  have f1 : Full (vT y ((yT y).eraseIdx n)) := by
    obtain ⟨⟨q, tt, r, e, ow, ml, ids, ea⟩, ku, ka, kd, l0⟩ := h
    refine ⟨⟨q, fun k => Nat.le_trans (hsub.filter _).length_le (tt k), r, e, fun p hp => ow p (hsub.subset hp), ml, ids, ea⟩, ku, ka, kd, l0⟩
  unfold yRing
  by_cases hl : t.2.2.2 = true
  · rw [if_pos hl]
    have hw := (h.1.2.2.2.2.1 t htm).2 hl
    have hq : ¬ t.1 ∈ yQ y := (h.1.1.2.2.2 t.1 hA).mp hw
    have hno : ∀ p ∈ (yT y).eraseIdx n, p.2.2.2 = true → ¬ p.1 = t.1 := by
      intro p hp hpl e
      have hone := h.1.2.1 t.1
      have hsp : yT y = (yT y).take n ++ t :: (yT y).drop (n + 1) := by
        have h1 := List.drop_eq_getElem_cons hlt
        have h2 : (yT y)[n] = t := by
          rw [List.getElem?_eq_getElem hlt] at ht
          exact Option.some.inj ht
        rw [h2] at h1
        rw [← h1, List.take_append_drop]
      have hT : (yT y).filter (fun a => a.1 == t.1 && a.2.2.2) = ((yT y).take n).filter (fun a => a.1 == t.1 && a.2.2.2) ++ t :: ((yT y).drop (n + 1)).filter (fun a => a.1 == t.1 && a.2.2.2) := by
        conv => lhs; rw [hsp]
        rw [List.filter_append, List.filter_cons_of_pos (by simp [hl])]
      rw [hT, List.length_append, List.length_cons] at hone
      have hp2 : p ∈ (yT y).take n ++ (yT y).drop (n + 1) := by rw [← List.eraseIdx_eq_take_drop_succ]; exact hp
      have hpf : (fun a : Int32 × Int × Int32 × Bool => a.1 == t.1 && a.2.2.2) p = true := by simp [e, hpl]
      rcases List.mem_append.mp hp2 with hp2 | hp2
      · have := List.length_pos_of_mem (List.mem_filter (p := fun a : Int32 × Int × Int32 × Bool => a.1 == t.1 && a.2.2.2).mpr ⟨hp2, hpf⟩)
        omega
      · have := List.length_pos_of_mem (List.mem_filter (p := fun a : Int32 × Int × Int32 × Bool => a.1 == t.1 && a.2.2.2).mpr ⟨hp2, hpf⟩)
        omega
    have e1 : yDrop (setF (vT y ((yT y).eraseIdx n)) 3 t.1 (yF (vT y ((yT y).eraseIdx n)) 3 t.1 + 2)) t.1 = setF (vT y ((yT y).eraseIdx n)) 3 t.1 (yF (vT y ((yT y).eraseIdx n)) 3 t.1 + 2) := by
      have e2 : ((yT y).eraseIdx n).filter (fun p => !(p.1 == t.1 && p.2.2.2)) = (yT y).eraseIdx n := List.filter_eq_self.mpr (fun p hp => by
        by_cases hpl : p.2.2.2 = true
        · simp [hno p hp hpl]
        · simp [hpl])
      show vT (setF (vT y ((yT y).eraseIdx n)) 3 t.1 _) (((yT y).eraseIdx n).filter (fun p => !(p.1 == t.1 && p.2.2.2))) = _
      rw [e2]
      rfl
    have f2 : Full (setF (vT y ((yT y).eraseIdx n)) 3 t.1 (yF (vT y ((yT y).eraseIdx n)) 3 t.1 + 2)) := f1
    have f3 := InvY.ready f2.1 hA hq
    rw [e1] at f3
    exact ⟨f3, f2.2.1, f2.2.2.1, f2.2.2.2.1, f2.2.2.2.2⟩
  · rw [if_neg hl]
    exact f1.del hA _ _
theorem c_ring (h : RCw σ y al sp rd en ts RC0) (q : Full y) {n : Nat} {t : mT} (ht : ts[n]? = some t) : Meets clC yX6_ring (kX6_ring :: wT) rX6_ring [mR 0 0, mI (nI n)] σ (fun o τ => o = none ∧ ∃ al' sp' rd' en' ts', RCw τ (yRing (vT y ((yT y).eraseIdx n)) (cT t)) al' sp' rd' en' ts' RC0) := by
  refine Meets.of SX6_ring rfl (by decide) rfl (Nat.le_of_ble_eq_true rfl) ?_
  intro J hJ
  have h10 := h.2.2.2.2.2.1.1.2.1
  have hlt : n < ts.length := (List.getElem?_eq_some_iff.mp ht).1
  have hix : ix (nI n) 10 n := ix_nI (by omega) (by decide)
  obtain ⟨r1, r2, r3, r4⟩ := h.2.2.2.2.2.1.1.2.2 n t ht
  have hty : (yT y)[n]? = some (cT t) := by rw [← h.2.2.2.2.2.1.2, List.getElem?_map, ht]; rfl
  have hown := (q.1.2.2.2.2.1 _ (List.mem_of_getElem? hty))
  refine stp_j hJ 8 ⟨i0, i0, i11, i12 (by decide), n, hix, _, r1, trivial, ⟨i3 (by decide), trivial⟩, _, c_Line_find (by decide) h.1.1 t.1, ?_⟩
  rintro o τ ⟨w, rfl⟩
  have w := w.symm
  subst w
  rcases h.find t.1 with ⟨i, hf, hi, e, hv⟩ | ⟨hf, hv⟩
  · rw [hf]
    have h8 := h.lt8 hi
    refine stp_j hJ 17 ⟨i0, i11, i12 (by decide), n, hix, _, r3, i0, i11, i13, n, hix, _, r4, i0, trivial, ⟨i11, trivial⟩, _, c_Tm_removeAt h.2.2.2.2.2.1.1 (nI n), ?_⟩
    rintro o τ ⟨rfl, c, tm⟩
    rw [if_neg (nI_pos (by omega)), nI_clamp (by omega)] at tm
    have f1 := h.timers c tm
    rw [eraseIdx_map, h.2.2.2.2.2.1.2] at f1
    have eid : idS τ i = t.1 := (h.same f1 rfl i hi).trans e
    obtain ⟨y1, hy1⟩ : ∃ y1, y1 = vT y ((yT y).eraseIdx n) := ⟨_, rfl⟩
    rw [← hy1] at f1 ⊢
    have hsub : ((yT y).eraseIdx n).Sublist (yT y) := List.eraseIdx_sublist _ _
    have q1 : InvY y1 := by
      rw [hy1]
      obtain ⟨⟨qq, tt, r, e, ow, ml, ids, ea⟩, -⟩ := q
      exact ⟨qq, fun k => Nat.le_trans (hsub.filter _).length_le (tt k), r, e, fun p hp => ow p (hsub.subset hp), ml, ids, ea⟩
    refine stp_j hJ 2 ?_
    by_cases hl : t.2.2.2 = true
    · have hw : yB y 1 t.1 = true := hown.2 hl
      have hq : ¬ t.1 ∈ yQ y := (q.1.1.2.2.2 t.1 hv).mp hw
      have hnr : ¬ i ∈ rd := fun z => hq (by rw [← e]; exact (h.mQ q.1.1.1 hi).mpr z)
      have hcell := (f1.2.2.2.1 i hi).1.2.2.2.1
      rw [eid] at hcell
      have f2 := f1.cell q1.1.1 hi (yF y1 3 t.1 + 2)
      rw [eid] at f2
      refine stp_j hJ 2 ⟨fun z => absurd z (by rw [hl]; decide), fun _ => ?_⟩
      refine stp_j hJ 6 ⟨i5 h8, _, hcell, _, rfl, i5 h8, ?_⟩
      refine stp_j hJ 3 ⟨trivial, ⟨i0, trivial⟩, _, c_makeReady f2 q1.1.1 q1.1.2.1 hi hnr, ?_⟩
      rintro o υ ⟨rfl, f3, -⟩
      have e3 : idS (sI τ 5 i 8 (yF y1 3 t.1 + 2)) i = t.1 := eid
      rw [e3] at f3
      have f4 : ∃ al' sp' rd' en' ts', RCw υ (yRing y1 (cT t)) al' sp' rd' en' ts' RC0 := by
        unfold yRing
        rw [if_pos (show (cT t).2.2.2 = true from hl)]
        exact ⟨_, _, _, _, _, f3⟩
      exact stp_j hJ 2 ⟨rfl, by rw [hy1] at f4; exact f4⟩
    · have hl0 : t.2.2.2 = false := Bool.eq_false_iff.mpr hl
      refine stp_j hJ 2 ⟨fun _ => ?_, fun z => absurd (by rw [hl0]; rfl) z⟩
      refine stp_j hJ 6 ⟨i5 h8, _, eid, trivial, ⟨i0, trivial⟩, _, c_deliver f1 q1.1 q1.2.1 q1.2.2.1 hi t.1 t.2.2.1, ?_⟩
      rintro o υ ⟨rfl, ⟨rd', ts', f2⟩, -⟩
      rw [eid] at f2
      have f4 : ∃ al' sp' rd' en' ts', RCw υ (yRing y1 (cT t)) al' sp' rd' en' ts' RC0 := by
        unfold yRing
        rw [if_neg (show ¬ (cT t).2.2.2 = true from hl)]
        exact ⟨_, _, _, _, _, f2⟩
      exact stp_j hJ 1 ⟨rfl, by rw [hy1] at f4; exact f4⟩
  · exact absurd hown.1 hv
theorem find_idx {α : Type} (p : α → Bool) : ∀ (l : List α), (l.findIdx? p = none → l.find? p = none) ∧ ∀ n, l.findIdx? p = some n → ∃ a, l[n]? = some a ∧ l.find? p = some a ∧ l.eraseP p = l.eraseIdx n
  | [] => ⟨fun _ => rfl, fun n h => by simp at h⟩
  | a :: l => by
    obtain ⟨i1, i2⟩ := find_idx p l
    rw [List.findIdx?_cons]
    by_cases h : p a = true
    · rw [if_pos h]
      refine ⟨fun z => (by cases z), fun n hn => ?_⟩
      cases hn
      exact ⟨a, rfl, List.find?_cons_of_pos h, List.eraseP_cons_of_pos h⟩
    · rw [if_neg h]
      refine ⟨fun z => ?_, fun n hn => ?_⟩
      · rw [List.find?_cons_of_neg h]
        refine i1 ?_
        cases hf : l.findIdx? p with
        | none => rfl
        | some k => rw [hf] at z; cases z
      · cases hf : l.findIdx? p with
        | none => rw [hf] at hn; cases hn
        | some k =>
          rw [hf] at hn
          cases hn
          obtain ⟨b, b1, b2, b3⟩ := i2 k hf
          exact ⟨b, b1, by rw [List.find?_cons_of_neg h]; exact b2, by rw [List.eraseP_cons_of_neg h, b3]; rfl⟩
theorem findIdx_cT (ts : List mT) {w : Int64} {n : Nat} (hw : w.toInt = (n : Int)) : ts.findIdx? (fun t => t.2.1 == w) = (ts.map cT).findIdx? (fun t => t.2.1 == (n : Int)) := by
  induction ts with
  | nil => rfl
  | cons t ts ih =>
    rw [List.map_cons, List.findIdx?_cons, List.findIdx?_cons, ih]
    have e : (t.2.1 == w) = ((cT t).2.1 == (n : Int)) := by
      rw [Bool.eq_iff_iff, beq_iff_eq, beq_iff_eq]
      show t.2.1 = w ↔ t.2.1.toInt = (n : Int)
      rw [← hw]
      exact Int64.toInt_inj.symm
    rw [e]
theorem p_tick (h : RC σ y) (q : Full y) (hN : yN y + 1 < 2 ^ 31) : Meets clC yX6_tick (kX6_tick :: wT) rX6_tick [mR 0 0] σ (fun r τ => r = some (mI (yTicks 10 (vN y (yN y + 1)) 0).2) ∧ RC τ (yTicks 10 (vN y (yN y + 1)) 0).1) := by
  obtain ⟨al, sp, rd, en, ts, h⟩ := h
  refine Meets.of SX6_tick rfl (by decide) rfl (Nat.le_of_ble_eq_true rfl) ?_
  intro J hJ
  have hnow := h.2.2.2.2.2.2.2.2.1.1
  have hn1 : (σ.2.1 0 0 7 + 1).toInt = ((yN y + 1 : Nat) : Int) := by
    have e1 : (1 : Int64).toInt = 1 := rfl
    rw [l64_add (by rw [hnow, e1]; omega) (by rw [hnow, e1]; omega), hnow, e1]
    omega
  have f0 := h.now (n := yN y + 1) hn1
  have q0 : Full (vN y (yN y + 1)) := q
  have fin : ∀ (τ : mS) (y' : Yd) (k : Nat) (w : mV), RC τ y' → (y', nI k) = yTicks 10 (vN y (yN y + 1)) 0 → J τ 54 [(0, mR 0 0), (1, mI (nI k)), (2, w)] [] := by
    intro τ y' k w hr he
    refine stp_j hJ 2 ⟨?_, ?_⟩
    · rw [← he]
    · rw [← he]
      exact hr
  have loop : ∀ (m n : Nat) (τ : mS) (y' : Yd) (al' sp' rd' en' : List Nat) (ts' : List mT), n + m = 10 → RCw τ y' al' sp' rd' en' ts' RC0 → Full y' → yTicks m y' (nI n) = yTicks 10 (vN y (yN y + 1)) 0 → J τ 14 [(0, mR 0 0), (1, mI (nI n)), (2, mI (nI n))] [] := by
    intro m
    induction m with
    | zero =>
      intro n τ y' al' sp' rd' en' ts' hn f qy hy
      have en10 : n = 10 := by omega
      subst en10
      refine stp_j hJ 3 ⟨fun _ => ?_, fun z => absurd (by decide) z⟩
      exact fin τ y' 10 _ ⟨_, _, _, _, _, f⟩ hy
    | succ m ih =>
      intro n τ y' al' sp' rd' en' ts' hn f qy hy
      have hnw := f.2.2.2.2.2.2.2.2.1.1
      refine stp_j hJ 3 ⟨fun z => absurd z (nI_ge (b := 10) (by omega) (by decide)), fun _ => ?_⟩
      refine stp_j hJ 5 ⟨i0, i0, _, rfl, trivial, ⟨i11, trivial⟩, _, c_Tm_firstEnding f.2.2.2.2.2.1.1 _, ?_⟩
      rintro o υ ⟨w, rfl⟩
      have w := w.symm
      subst w
      rw [findIdx_cT ts' hnw, f.2.2.2.2.2.1.2]
      have hT : yTicks (m + 1) y' (nI n) = match (yT y').find? (fun t => t.2.1 == (yN y' : Int)) with
        | none => (y', nI n)
        | some t => yTicks m (yRing (vT y' ((yT y').eraseP (fun t => t.2.1 == (yN y' : Int)))) t) (nI n + 1) := rfl
      rw [hT] at hy
      obtain ⟨z1, z2⟩ := find_idx (fun t : Int32 × Int × Int32 × Bool => t.2.1 == (yN y' : Int)) (yT y')
      cases hfi : (yT y').findIdx? (fun t => t.2.1 == (yN y' : Int)) with
      | none =>
        rw [z1 hfi] at hy
        refine stp_j hJ 4 ⟨fun z => absurd rfl z, fun _ => ?_⟩
        refine stp_j hJ 1 ?_
        refine j_pre hJ (lv := [(0, mR 0 0), (1, mI (nI n)), (2, mI (nI n))]) (ext := [(3, mI (-1))]) ?_
        exact fin τ y' n _ ⟨_, _, _, _, _, f⟩ hy
      | some k =>
        obtain ⟨t, b1, b2, b3⟩ := z2 k hfi
        rw [b2, b3] at hy
        have hk10 : k < (yT y').length := (List.getElem?_eq_some_iff.mp b1).1
        have hlen : (yT y').length = ts'.length := by rw [← f.2.2.2.2.2.1.2, List.length_map]
        have h10 := f.2.2.2.2.2.1.1.2.1
        have hts : ts'[k]? = some ts'[k] := List.getElem?_eq_getElem (by omega)
        have hct : cT ts'[k] = t := by
          rw [← f.2.2.2.2.2.1.2, List.getElem?_map, hts] at b1
          exact Option.some.inj b1
        have hne : ¬ idI (some k) = -1 := fun z => by
          have hz : nI k = -1 := z
          have : ¬ nI k < 0 := nI_pos (by omega)
          rw [hz] at this
          exact this (by decide)
        refine stp_j hJ 4 ⟨fun _ => ?_, fun z => absurd hne z⟩
        refine stp_j hJ 3 ⟨trivial, ⟨i0, trivial⟩, _, c_ring f qy hts, ?_⟩
        rintro o υ ⟨rfl, al'', sp'', rd'', en'', ts'', f2⟩
        rw [hct] at f2
        refine stp_j hJ 3 ⟨_, nI_1 n, _, nI_1 n, ?_⟩
        refine j_pre hJ (lv := [(0, mR 0 0), (1, mI (nI (n + 1))), (2, mI (nI (n + 1)))]) (ext := [(3, mI (nI k))]) ?_
        rw [nI_1] at hy
        exact ih (n + 1) υ _ al'' sp'' rd'' en'' ts'' (by omega) f2 (qy.ring b1) hy
  refine stp_j hJ 10 ⟨i0, _, rfl, _, rfl, i0, ?_⟩
  exact loop 10 0 _ _ al sp rd en ts (by decide) f0 q0 rfl
end TICK
