/-! Taking, linking, ringing -/
theorem map_erase_inj {f : Nat → Int32} {i : Nat} : ∀ {l : List Nat}, (∀ a ∈ l, f a = f i → a = i) → (l.erase i).map f = (l.map f).erase (f i)
  | [], _ => rfl
  | a :: l, h => by
    by_cases e : a = i
    · subst e
      rw [List.erase_cons_head, List.map_cons, List.erase_cons_head]
    · have h2 : ¬ f a = f i := fun z => e (h a List.mem_cons_self z)
      rw [List.erase_cons_tail (by simpa using e), List.map_cons, List.map_cons, List.erase_cons_tail (by simpa using h2), map_erase_inj (fun b hb => h b (List.mem_cons_of_mem _ hb))]
theorem filter_eraseP_same {α : Type} (p : α → Bool) : ∀ (l : List α), (l.eraseP p).filter p = (l.filter p).tail
  | [] => rfl
  | a :: l => by
    by_cases h : p a = true
    · rw [List.eraseP_cons_of_pos h, List.filter_cons_of_pos h]
      rfl
    · rw [List.eraseP_cons_of_neg h, List.filter_cons_of_neg h, List.filter_cons_of_neg h]
      exact filter_eraseP_same p l
theorem filter_eraseP_other {α : Type} {p q : α → Bool} (hpq : ∀ a, p a = true → q a = false) : ∀ (l : List α), (l.eraseP p).filter q = l.filter q
  | [] => rfl
  | a :: l => by
    by_cases h : p a = true
    · rw [List.eraseP_cons_of_pos h, List.filter_cons_of_neg (by rw [hpq a h]; decide)]
    · rw [List.eraseP_cons_of_neg h]
      by_cases hq : q a = true
      · rw [List.filter_cons_of_pos hq, List.filter_cons_of_pos hq, filter_eraseP_other hpq l]
      · rw [List.filter_cons_of_neg hq, List.filter_cons_of_neg hq, filter_eraseP_other hpq l]
theorem l64_add {a b : Int64} (h1 : -9223372036854775808 ≤ a.toInt + b.toInt) (h2 : a.toInt + b.toInt < 9223372036854775808) : (a + b).toInt = a.toInt + b.toInt := by
  rw [Int64.toInt_add]
  exact Int.bmod_eq_of_le (by omega) (by omega)
section MID2
variable {σ : mS} {y : Yd} {al sp rd en : List Nat} {ts : List mT} {g : Nat → Int32 → Bool}
theorem RCw.clockAdd (h : RCw σ y al sp rd en ts g) {τ : mS} {o : Int32} {e : Int64} {b v : Int32} {l : Bool} (he : e.toInt = (yN y : Int) + b.toInt) (c : Ch pTm σ τ) (ht : TmIs τ (if ts.length < 10 then ts ++ [(o, e, v, l)] else ts)) : ∃ ts', RCw τ (yClock y o b v l) al sp rd en ts' g := by
  have h1 := h.timers c ht
  have hl : (yT y).length = ts.length := by rw [← h.2.2.2.2.2.1.2, List.length_map]
  refine ⟨if ts.length < 10 then ts ++ [(o, e, v, l)] else ts, ?_⟩
  unfold yClock
  by_cases hc : ts.length < 10
  · rw [if_pos hc] at h1 ⊢
    rw [if_pos (by omega)]
    rw [List.map_append, h.2.2.2.2.2.1.2] at h1
    have e2 : [(o, e, v, l)].map cT = [(o, (yN y : Int) + b.toInt, v, l)] := by
      show [(o, e.toInt, v, l)] = _
      rw [he]
    rw [e2] at h1
    exact h1
  · rw [if_neg hc] at h1 ⊢
    rw [if_neg (by omega)]
    rw [h.2.2.2.2.2.1.2] at h1
    exact h1
theorem now_add (h : RCw σ y al sp rd en ts g) (hN : yN y < 2 ^ 31) (b : Int32) : (σ.2.1 0 0 7 + b.toInt64).toInt = (yN y : Int) + b.toInt := by
  have h1 := h.2.2.2.2.2.2.2.2.1.1
  have h2 : b.toInt64.toInt = b.toInt := Int32.toInt_toInt64 b
  have h3 := Int32.le_toInt b
  have h4 := Int32.toInt_lt b
  rw [l64_add (by rw [h1, h2]; omega) (by rw [h1, h2]; omega), h1, h2]
theorem c_takeMessage (h : RCw σ y al sp rd en ts g) (q : InvQ y) (hN : yN y < 2 ^ 31) {i : Nat} (hi : i ∈ al) (a b : Int32) (ha0 : 0 ≤ a) (ha4 : a < 4) : Meets clC yX6_takeMessage (kX6_takeMessage :: wT) rX6_takeMessage [mR 0 0, mR 5 i, mI a, mI b] σ (fun o τ => o = none ∧ ∃ rd' ts', RCw τ (yTake y (idS σ i) a b) al sp rd' en ts' g) := by
  refine Meets.of SX6_takeMessage rfl (by decide) rfl (Nat.le_of_ble_eq_true rfl) ?_
  intro J hJ
  have h8 := h.lt8 hi
  have hMb := (h.2.2.2.1 i hi).2.2
  obtain ⟨hd, a1, a2, a3, a4, a5⟩ := id hMb
  rw [List.length_map] at a3 a4
  refine stp_j hJ 6 ⟨i5 h8, i8 h8, _, a3, fun h1 => ?_, fun h1 => ?_⟩
  · have he : mbx y (idS σ i) = [] := by
      cases hm : mbx y (idS σ i) with
      | nil => rfl
      | cons m ms =>
        rw [hm] at h1 a4
        exact absurd h1 (nI_nle (by simp) (by omega))
    have f1 := h.cell q.1 hi (yF y 3 (idS σ i) - 1)
    have f2 := f1.waits q.1 hi true
    have hcell := (h.2.2.2.1 i hi).1.2.2.2.1
    refine stp_j hJ 9 ⟨i5 h8, _, hcell, _, rfl, i5 h8, i5 h8, Or.inr rfl, ?_⟩
    refine stp_j hJ 4 ⟨i0, trivial, ⟨i3 (by decide), trivial⟩, _, c_Line_remove (by decide) f2.1.2.2.1 h8, ?_⟩
    rintro o τ ⟨rfl, c, hl⟩
    have f3 := f2.queue c hl (fun k hk => h.2.1.2.2.1 k (List.mem_of_mem_erase hk))
    have em : (rd.erase i).map (idS (sI (sI σ 5 i 8 (yF y 3 (idS σ i) - 1)) 5 i 10 (bI true))) = (yQ y).erase (idS σ i) := by
      rw [← h.2.2.1.2.1]
      exact map_erase_inj (fun k hk e => h.inj q.1 (h.2.1.2.2.1 k hk) hi e)
    rw [em] at f3
    have eid : idS τ i = idS σ i := by unfold idS; rw [(c 5 i (by omega)).1]; rfl
    have en7 : τ.2.1 0 0 7 = σ.2.1 0 0 7 := by rw [(c 0 0 (by omega)).2.1]
    refine stp_j hJ 3 ⟨fun h2 => ?_, fun h2 => ?_⟩
    · refine stp_j hJ 1 ⟨rfl, rd.erase i, ts, ?_⟩
      unfold yTake
      rw [he]
      show RCw τ (if 1 ≤ b then _ else _) al sp (rd.erase i) en ts g
      rw [if_neg (Int32.not_le.mpr h2)]
      exact f3
    · refine stp_j hJ 12 ⟨i0, i5 h8, _, eid, i0, _, en7, _, rfl, _, rfl, trivial, ⟨i11, trivial⟩, _, c_Tm_add f3.2.2.2.2.2.1.1 (idS σ i) (σ.2.1 0 0 7 + b.toInt64) 0 true, ?_⟩
      rintro o υ ⟨rfl, c2, ht⟩
      obtain ⟨ts', f4⟩ := f3.clockAdd (b := b) (now_add h hN b) c2 ht
      refine stp_j hJ 1 ⟨rfl, rd.erase i, ts', ?_⟩
      unfold yTake
      rw [he]
      show RCw υ (if 1 ≤ b then _ else _) al sp (rd.erase i) en ts' g
      rw [if_pos (Int32.not_lt.mp h2)]
      exact f4
  · cases hm : mbx y (idS σ i) with
    | nil =>
      rw [hm] at h1
      exact absurd (by decide) h1
    | cons m ms =>
      unfold AcM at hMb
      rw [hm] at hMb
      refine stp_j hJ 5 ⟨i5 h8, trivial, ⟨i8 h8, trivial⟩, _, c_Mb_firstSender h8 hMb, ?_⟩
      rintro o τ ⟨e, rfl⟩
      have e := e.symm
      subst e
      have f1 := h.reg q.1 hi (r := 3) m.2.1
      refine stp_j hJ 1 ⟨i6 h8, 3, ix_nI (p := 3) (by decide) (by decide), ?_⟩
      refine stp_j hJ 6 ⟨i5 h8, trivial, ⟨i8 h8, trivial⟩, _, c_Mb_valueAt (σ := sI σ 6 i 3 m.2.1) h8 hMb 0, ?_⟩
      rintro o τ ⟨rfl, rfl⟩
      have f2 := f1.reg q.1 hi (r := a.toNatClampNeg) m.2.2
      refine stp_j hJ 1 ⟨i6 h8, a.toNatClampNeg, ix_of ha0 ha4 rfl, ?_⟩
      refine stp_j hJ 2 ⟨trivial, ⟨i8 h8, trivial⟩, _, c_Mb_removeFirst (σ := sI (sI σ 6 i 3 m.2.1) 6 i a.toNatClampNeg m.2.2) h8 hMb, ?_⟩
      rintro o τ ⟨rfl, c, hm2⟩
      have f3 := f2.mail (M := (yM y).eraseP (fun m => m.1 == idS σ i)) q.1 hi c (by
        show MbIs τ i ((((yM y).eraseP (fun m => m.1 == idS σ i)).filter (fun m => m.1 == idS σ i)).map vS)
        rw [filter_eraseP_same]
        have : (yM y).filter (fun m => m.1 == idS σ i) = m :: ms := hm
        rw [this]
        exact hm2) (fun x hx => by
        show ((yM y).eraseP (fun m => m.1 == idS σ i)).filter (fun m => m.1 == x) = (yM y).filter (fun m => m.1 == x)
        exact filter_eraseP_other (fun a ha => by
          have e1 : a.1 = idS σ i := by simpa using ha
          have e2 : ¬ idS σ i = x := fun z => hx z.symm
          simp [e1, e2]) (yM y)) (fun k hk => h.apart hi hk)
      have f4 := f3.free (yR y + 1)
      refine stp_j hJ 7 ⟨i0, _, f3.2.2.2.2.2.2.2.2.1.2.1, _, nI_1 _, i0, rfl, rd, ts, ?_⟩
      unfold yTake
      rw [hm]
      exact f4
theorem RCw.gc (h : RCw σ y al sp rd en ts g) {g' : Nat → Int32 → Bool} (e : ∀ i ∈ al, ∀ j, j < 8 → ¬ j ∈ al → g j (idS σ i) = g' j (idS σ i)) : RCw σ y al sp rd en ts g' :=
  ⟨h.1, h.2.1, h.2.2.1, h.2.2.2.1, fun i hi j hj => ⟨(h.2.2.2.2.1 i hi j hj).1, fun hn => ((h.2.2.2.2.1 i hi j hj).2 hn).trans (e i hi j hj hn)⟩, h.2.2.2.2.2⟩
theorem any_eraseP_other {α : Type} {p q : α → Bool} (hpq : ∀ a, p a = true → q a = false) : ∀ (l : List α), (l.eraseP p).any q = l.any q
  | [] => rfl
  | a :: l => by
    by_cases h : p a = true
    · rw [List.eraseP_cons_of_pos h, List.any_cons, hpq a h, Bool.false_or]
    · rw [List.eraseP_cons_of_neg h, List.any_cons, List.any_cons, any_eraseP_other hpq l]
theorem isK_iff {a b : Int32} {p : Int32 × Int32} : isK a b p = true ↔ (p.1 = a ∧ p.2 = b) ∨ (p.1 = b ∧ p.2 = a) := by
  simp [isK]
theorem isK_ne {a b : Int32} {p : Int32 × Int32} (h1 : ¬ (p.1 = a ∧ p.2 = b)) (h2 : ¬ (p.1 = b ∧ p.2 = a)) : isK a b p = false := by
  cases hk : isK a b p with
  | false => rfl
  | true => exact (isK_iff.mp hk).elim (fun z => absurd z h1) (fun z => absurd z h2)
theorem isK_dis {a b c d : Int32} {p : Int32 × Int32} (h : isK a b p = true) (hn : ¬ (c = a ∧ d = b)) (hn2 : ¬ (c = b ∧ d = a)) : isK c d p = false := by
  cases hk : isK c d p with
  | false => rfl
  | true =>
    rcases isK_iff.mp h with ⟨e1, e2⟩ | ⟨e1, e2⟩ <;> rcases isK_iff.mp hk with ⟨e3, e4⟩ | ⟨e3, e4⟩
    · exact absurd ⟨e3.symm.trans e1, e4.symm.trans e2⟩ hn
    · exact absurd ⟨e4.symm.trans e2, e3.symm.trans e1⟩ hn2
    · exact absurd ⟨e3.symm.trans e1, e4.symm.trans e2⟩ hn2
    · exact absurd ⟨e4.symm.trans e2, e3.symm.trans e1⟩ hn
/-- a link with one who is no more -/
theorem c_dropLink (h : RCw σ y al sp rd en ts g) (q : Srt y) {e i : Nat} (he : e ∈ sp) (hi : i ∈ al) {x : Int32} (hx : ¬ x ∈ yA y) : Meets clC yX6_dropLink (kX6_dropLink :: wT) rX6_dropLink [mR 0 0, mR 5 e, mR 5 i] σ (fun o τ => o = none ∧ RCw τ (vR (vK y ((yK y).eraseP (isK (idS σ i) x))) (yR y + 1)) al sp rd en ts (fun j z => if j = e ∧ z = idS σ i then false else g j z) ∧ Dead sp σ τ ∧ idS τ = idS σ) := by
  refine Meets.of SX6_dropLink rfl (by decide) rfl (Nat.le_of_ble_eq_true rfl) ?_
  intro J hJ
  have h8 := h.lt8 hi
  have e8 := h.sp8 he
  have hne : ¬ e = i := h.apart hi he
  have hna : ¬ e ∈ al := fun z => h.apart z he rfl
  have hs := h.2.2.2.2.2.2.2.2.2
  refine stp_j hJ 4 ⟨trivial, ⟨i5 e8, trivial⟩, _, c_Ac_setLink e8 h8 (hs.1 i h8) false, ?_⟩
  rintro o τ ⟨rfl, w, rfl, hw⟩
  refine stp_j hJ 4 ⟨trivial, ⟨i5 h8, trivial⟩, _, c_Ac_setLink (σ := sI σ 5 e 14 w) h8 e8 (hs.1 e e8) false, ?_⟩
  rintro o τ ⟨rfl, w2, rfl, hw2⟩
  have old : (sI σ 5 e 14 w).1 5 i 14 = σ.1 5 i 14 := u3_other (fun z => hne z.symm)
  rw [old] at hw2
  have f1 : RCw (sI (sI σ 5 e 14 w) 5 i 14 w2) (vK y ((yK y).eraseP (isK (idS σ i) x))) al sp rd en ts (fun j z => if j = e ∧ z = idS σ i then false else g j z) := by
    refine ⟨h.1, h.2.1, h.2.2.1, h.2.2.2.1, ?_, h.2.2.2.2.2.1, h.2.2.2.2.2.2.1, h.2.2.2.2.2.2.2.1, h.2.2.2.2.2.2.2.2.1, h.2.2.2.2.2.2.2.2.2⟩
    intro a ha j hj
    have hae : ¬ a = e := fun z => hna (by rw [← z]; exact ha)
    have hax : ¬ idS σ a = x := fun z => hx (by rw [← z]; exact h.mA ha)
    have L := h.2.2.2.2.1 a ha j hj
    constructor
    · intro hja
      have hjx : ¬ idS σ j = x := fun z => hx (by rw [← z]; exact h.mA hja)
      have hje : ¬ j = e := fun z => hna (by rw [← z]; exact hja)
      show lb (u3 (u3 σ.1 5 e 14 w) 5 i 14 w2 5 a 14) j = ((yK y).eraseP (isK (idS σ i) x)).any (isK (idS σ a) (idS σ j))
      rw [any_eraseP_other (fun p hp => isK_dis hp (fun z => hjx z.2) (fun z => hax z.1))]
      by_cases ea : a = i
      · subst ea
        rw [u3_s, hw2 j hj, if_neg hje]
        exact L.1 hja
      · rw [u3_other ea, u3_other hae]
        exact L.1 hja
    · intro hja
      show lb (u3 (u3 σ.1 5 e 14 w) 5 i 14 w2 5 a 14) j = if j = e ∧ idS σ a = idS σ i then false else g j (idS σ a)
      by_cases ea : a = i
      · subst ea
        rw [u3_s, hw2 j hj]
        by_cases hje : j = e
        · rw [if_pos hje, if_pos ⟨hje, rfl⟩]
        · rw [if_neg hje, if_neg (fun z => hje z.1)]
          exact L.2 hja
      · rw [u3_other ea, u3_other hae, if_neg (fun z => ea (h.inj q ha hi z.2))]
        exact L.2 hja
  have f2 := f1.free (yR y + 1)
  refine stp_j hJ 7 ⟨i0, _, h.2.2.2.2.2.2.2.2.1.2.1, _, nI_1 _, i0, rfl, f2, ?_, rfl⟩
  intro k hk f hf
  show u3 (u3 σ.1 5 e 14 w) 5 i 14 w2 5 k f = σ.1 5 k f
  rw [u3_n _ _ (fun z => hf z.2.2), u3_n _ _ (fun z => hf z.2.2)]
theorem lkd_add (y : Yd) (a b u v : Int32) : lkd (vK y (yK y ++ [(a, b)])) u v = (lkd y u v || isK u v (a, b)) := by
  show (yK y ++ [(a, b)]).any (isK u v) = _
  rw [List.any_append]
  simp [lkd]
theorem c_makeLink (h : RCw σ y al sp rd en ts g) (q : InvQ y) (qt : InvT y) (qr : InvR y) (qe : InvE y) {i : Nat} (hi : i ∈ al) (a : Int32) (ha0 : 0 ≤ a) (ha4 : a < 4) : Meets clC yX6_makeLink (kX6_makeLink :: wT) rX6_makeLink [mR 0 0, mR 5 i, mI a] σ (fun o τ => o = none ∧ ∃ rd' en' ts', RCw τ (yLink y (idS σ i) a) al sp rd' en' ts' g) := by
  refine Meets.of SX6_makeLink rfl (by decide) rfl (Nat.le_of_ble_eq_true rfl) ?_
  intro J hJ
  have h8 := h.lt8 hi
  have hs := h.2.2.2.2.2.2.2.2.2
  have hix := ix_of ha0 ha4 (n := 4) rfl
  have hreg : σ.1 6 i a.toNatClampNeg = yF y (rg a) (idS σ i) := (h.2.2.2.1 i hi).1.2.2.2.2.2.2.2.2 _ (by
    have := vp_in_iff.mp hix.1
    have e2 : (a.toNatClampNeg : Int) = a.toInt := by
      rw [Int32.toNatClampNeg]
      omega
    omega)
  refine stp_j hJ 9 ⟨i5 h8, i6 h8, _, hix, _, hreg, i0, trivial, ⟨i3 (by decide), trivial⟩, _, c_Line_find (by decide) h.1.1 _, ?_⟩
  rintro o τ ⟨e, rfl⟩
  have e := e.symm
  subst e
  rcases h.find (yF y (rg a) (idS σ i)) with ⟨k, hf, hk, ek, hv⟩ | ⟨hf, hv⟩
  · rw [hf]
    have k8 := h.lt8 hk
    refine stp_j hJ 3 ?_
    refine stp_j hJ 3 ⟨fun u e => by cases e; exact i5 k8, fun u e => by cases e; exact i5 h8, fun e => ?_, fun e => ?_⟩
    · have e : k = i := by cases e; rfl
      subst e
      refine stp_j hJ 1 ⟨rfl, rd, en, ts, ?_⟩
      rw [yLink, if_neg (fun z => z hv), if_pos (Or.inl ek.symm)]
      exact h
    · have hki : ¬ k = i := fun z => e (by rw [z]; rfl)
      have hvi : ¬ yF y (rg a) (idS σ i) = idS σ i := fun z => hki (h.inj q.1 hk hi (ek.trans z))
      have L := (h.2.2.2.2.1 i hi k k8).1 hk
      rw [ek] at L
      refine stp_j hJ 3 ⟨trivial, ⟨i5 h8, trivial⟩, _, c_Ac_isLinkedWith h8 k8 (hs.1 k k8), ?_⟩
      rintro o τ ⟨e, hy⟩
      have e := e.symm
      subst e
      rcases hy with ⟨rfl, hl⟩ | ⟨rfl, hl⟩
      · refine stp_j hJ 1 ⟨fun z => absurd z (by decide), fun _ => ?_⟩
        refine stp_j hJ 1 ⟨rfl, rd, en, ts, ?_⟩
        rw [yLink, if_neg (fun z => z hv), if_pos (Or.inr (L.symm.trans hl))]
        exact h
      · refine stp_j hJ 1 ⟨fun _ => ?_, fun z => absurd rfl z⟩
        have hno : ¬ (yF y (rg a) (idS σ i) = idS σ i ∨ lkd y (idS σ i) (yF y (rg a) (idS σ i)) = true) := fun z => z.elim hvi (fun z => hl (L.trans z))
        unfold InvR at qr
        refine stp_j hJ 4 ⟨i0, _, h.2.2.2.2.2.2.2.2.1.2.1, fun h1 => ?_, fun h1 => ?_⟩
        · have hR : 1 ≤ yR y := (nI_leI (a := 1) (by decide) (by omega)).mp h1
          obtain ⟨R, eR⟩ : ∃ R, yR y = R + 1 := ⟨yR y - 1, by omega⟩
          have hpred : yR y - 1 = R := by omega
          have ey : yLink y (idS σ i) a = vK (vR y R) (yK y ++ [(idS σ i, yF y (rg a) (idS σ i))]) := by
            rw [yLink, if_neg (fun z => z hv), if_neg hno, if_neg (by omega), hpred]
          have f1 := h.free R
          refine stp_j hJ 6 ⟨i0, _, h.2.2.2.2.2.2.2.2.1.2.1.trans (by rw [eR]), _, nI_pred R, i0, ?_⟩
          refine stp_j hJ 4 ⟨trivial, ⟨i5 h8, trivial⟩, _, c_Ac_setLink (σ := sI σ 0 0 8 (nI R)) h8 k8 (hs.1 k k8) true, ?_⟩
          rintro o τ ⟨rfl, w, rfl, hw⟩
          refine stp_j hJ 4 ⟨trivial, ⟨i5 k8, trivial⟩, _, c_Ac_setLink (σ := sI (sI σ 0 0 8 (nI R)) 5 i 14 w) k8 h8 (hs.1 i h8) true, ?_⟩
          rintro o τ ⟨rfl, w2, rfl, hw2⟩
          have old : (sI (sI σ 0 0 8 (nI R)) 5 i 14 w).1 5 k 14 = σ.1 5 k 14 := u3_other (f := (sI σ 0 0 8 (nI R)).1) hki
          rw [old] at hw2
          refine stp_j hJ 1 ⟨rfl, rd, en, ts, ?_⟩
          rw [ey]
          refine ⟨f1.1, f1.2.1, f1.2.2.1, f1.2.2.2.1, ?_, f1.2.2.2.2.2.1, f1.2.2.2.2.2.2.1, f1.2.2.2.2.2.2.2.1, f1.2.2.2.2.2.2.2.2.1, f1.2.2.2.2.2.2.2.2.2⟩
          intro b hb j hj
          have L2 := h.2.2.2.2.1 b hb j hj
          have rd14 : ∀ c, ((sI (sI (sI σ 0 0 8 (nI R)) 5 i 14 w) 5 k 14 w2).1 5 c 14) = if c = k then w2 else if c = i then w else σ.1 5 c 14 := by
            intro c
            show u3 (u3 (sI σ 0 0 8 (nI R)).1 5 i 14 w) 5 k 14 w2 5 c 14 = _
            by_cases c1 : c = k
            · subst c1
              rw [u3_s, if_pos rfl]
            · rw [u3_other c1, if_neg c1]
              by_cases c2 : c = i
              · subst c2
                rw [u3_s, if_pos rfl]
              · rw [u3_other c2, if_neg c2]
                rfl
          rw [rd14]
          constructor
          · intro hja
            refine Eq.trans ?_ (lkd_add (vR y R) (idS σ i) (yF y (rg a) (idS σ i)) (idS σ b) (idS σ j)).symm
            show _ = (lkd y (idS σ b) (idS σ j) || isK (idS σ b) (idS σ j) (idS σ i, yF y (rg a) (idS σ i)))
            rw [← ek]
            by_cases c1 : b = k
            · subst c1
              rw [if_pos rfl, hw2 j hj]
              by_cases c2 : j = i
              · subst c2
                simp [isK]
              · have c3 : ¬ idS σ i = idS σ j := fun z => c2 (h.inj q.1 hja hi z.symm)
                have c4 : ¬ idS σ i = idS σ b := fun z => hki (h.inj q.1 hb hi z.symm)
                rw [if_neg c2, isK_ne (fun z => c4 z.1) (fun z => c3 z.1), Bool.or_false]
                exact L2.1 hja
            · rw [if_neg c1]
              by_cases c2 : b = i
              · subst c2
                rw [if_pos rfl, hw j hj]
                by_cases c3 : j = k
                · subst c3
                  simp [isK]
                · have c5 : ¬ idS σ k = idS σ j := fun z => c3 (h.inj q.1 hja hk z.symm)
                  have c4 : ¬ idS σ k = idS σ b := fun z => hki (h.inj q.1 hk hb z)
                  rw [if_neg c3, isK_ne (fun z => c5 z.2) (fun z => c4 z.2), Bool.or_false]
                  exact L2.1 hja
              · have c5 : ¬ idS σ i = idS σ b := fun z => c2 (h.inj q.1 hb hi z.symm)
                have c6 : ¬ idS σ k = idS σ b := fun z => c1 (h.inj q.1 hb hk z.symm)
                rw [if_neg c2, isK_ne (fun z => c5 z.1) (fun z => c6 z.2), Bool.or_false]
                exact L2.1 hja
          · intro hja
            have j1 : ¬ j = i := fun z => hja (by rw [z]; exact hi)
            have j2 : ¬ j = k := fun z => hja (by rw [z]; exact hk)
            show _ = g j (idS σ b)
            by_cases c1 : b = k
            · subst c1
              rw [if_pos rfl, hw2 j hj, if_neg j1]
              exact L2.2 hja
            · rw [if_neg c1]
              by_cases c2 : b = i
              · subst c2
                rw [if_pos rfl, hw j hj, if_neg j2]
                exact L2.2 hja
              · rw [if_neg c2]
                exact L2.2 hja
        · have hR : yR y = 0 := by
            have : ¬ 1 ≤ yR y := fun z => h1 ((nI_leI (a := 1) (by decide) (by omega)).mpr z)
            omega
          refine stp_j hJ 6 ⟨i5 h8, i6 h8, _, hix, rfl, rd, en, ts, ?_⟩
          rw [yLink, if_neg (fun z => z hv), if_neg hno, if_pos hR]
          exact h.reg q.1 hi (-1)
  · rw [hf]
    refine stp_j hJ 3 ?_
    refine stp_j hJ 5 ⟨trivial, ⟨i0, trivial⟩, _, c_exitReaches h q qt qr qe hi _ (-1), ?_⟩
    rintro o τ ⟨rfl, ⟨rd', en', ts', f⟩, -⟩
    refine stp_j hJ 1 ⟨rfl, rd', en', ts', ?_⟩
    rw [yLink, if_pos hv]
    exact f
end MID2
