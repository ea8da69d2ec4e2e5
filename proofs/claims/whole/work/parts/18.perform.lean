/-! One instruction -/
def CodeOk (y : Yd) : Prop := ∀ c, c < 48 → yC y 0 c = -1 ∨ insOk (yC y 0 c) (yC y 1 c) (yC y 2 c)
section PERF
variable {σ : mS} {y : Yd} {al sp rd en : List Nat} {ts : List mT}
theorem clamp_lt {x : Int32} {n : Nat} {p : Nat} (h : ix x n p) : p < n := by
  obtain ⟨h1, h2⟩ := h
  have := vp_in_iff.mp h1
  rw [← h2, Int32.toNatClampNeg]
  omega
theorem c_perform (h : RCw σ y al sp rd en ts RC0) (q : Full y) (qc : CodeOk y) (hL : (yL y).toInt < 2147483647) (hN : yN y < 2 ^ 31) {i : Nat} (hi : i ∈ al) : Meets clC yX6_perform (kX6_perform :: wT) rX6_perform [mR 0 0, mR 5 i] σ (fun o τ => o = none ∧ ∃ al' sp' rd' en' ts', RCw τ (yPerf y (idS σ i)) al' sp' rd' en' ts' RC0 ∧ Stab al σ al' τ (yL y)) := by
  refine Meets.of SX6_perform rfl (by decide) rfl (Nat.le_of_ble_eq_true rfl) ?_
  intro J hJ
  have h8 := h.lt8 hi
  have hcell := (h.2.2.2.1 i hi).1.2.2.2.1
  obtain ⟨c, hc⟩ : ∃ c, c = yF y 3 (idS σ i) := ⟨_, rfl⟩
  rw [← hc] at hcell
  obtain ⟨qi, ku, ka, kd, l0⟩ := id q
  refine stp_j hJ 7 ⟨i5 h8, _, hcell, i0, trivial, ⟨i1, trivial⟩, _, c_Code_isFilled σ c, ?_⟩
  rintro o τ ⟨w, hy⟩
  have w := w.symm
  subst w
  rcases hy with ⟨rfl, hf⟩ | ⟨rfl, hf⟩
  · refine stp_j hJ 1 ⟨fun _ => ?_, fun z => absurd (by decide) z⟩
    have hix : ix c 48 c.toNatClampNeg := ix_of hf.1 hf.2.1 rfl
    have hc48 := clamp_lt hix
    have co := h.2.2.2.2.2.2.2.1
    obtain ⟨op, hop⟩ : ∃ op, op = yC y 0 c.toNatClampNeg := ⟨_, rfl⟩
    obtain ⟨a, ha⟩ : ∃ a, a = yC y 1 c.toNatClampNeg := ⟨_, rfl⟩
    obtain ⟨b, hb⟩ : ∃ b, b = yC y 2 c.toNatClampNeg := ⟨_, rfl⟩
    have r0 : σ.1 2 0 c.toNatClampNeg = op := by rw [hop]; exact co 0 (by decide) _ hc48
    have r1 : σ.1 2 1 c.toNatClampNeg = a := by rw [ha]; exact co 1 (by decide) _ hc48
    have r2 : σ.1 2 2 c.toNatClampNeg = b := by rw [hb]; exact co 2 (by decide) _ hc48
    have hne : ¬ op = -1 := by rw [← r0]; exact hf.2.2
    have ok : insOk op a b := by
      have := qc _ hc48
      rw [← hop, ← ha, ← hb] at this
      exact this.resolve_left hne
    have hperf : yPerf y (idS σ i) = yAct (setF y 3 (idS σ i) (c + 1)) (idS σ i) op a b := by
      unfold yPerf
      rw [← hc, if_pos ⟨hf.1, hf.2.1, by rw [← hop]; exact hne⟩, hop, ha, hb]
    have f1 := h.cell qi.1.1 hi (c + 1)
    obtain ⟨y1, hy1⟩ : ∃ y1, y1 = setF y 3 (idS σ i) (c + 1) := ⟨_, rfl⟩
    rw [← hy1] at f1 hperf
    have q1 : Full y1 := by rw [hy1]; exact q
    have hL1 : (yL y1).toInt < 2147483647 := by rw [hy1]; exact hL
    have hN1 : yN y1 < 2 ^ 31 := by rw [hy1]; exact hN
    have eL1 : yL y1 = yL y := by rw [hy1]; rfl
    have eA1 : yA y1 = yA y := by rw [hy1]; rfl
    obtain ⟨σ1, hσ1⟩ : ∃ σ1, σ1 = sI σ 5 i 8 (c + 1) := ⟨_, rfl⟩
    have eid : idS σ1 i = idS σ i := by rw [hσ1]; rfl
    have op1 : σ1.1 2 0 c.toNatClampNeg = op := by rw [hσ1]; exact r0
    have cl1 : σ1.1 5 i 8 = c + 1 := by rw [hσ1]; exact u3_s _ _ _ _ _
    rw [← hσ1] at f1
    refine stp_j hJ 20 ⟨i5 h8, i0, i1, i2 (by decide), _, hix, _, r1, i0, i1, i2 (by decide), _, hix, _, r2, _, rfl, i5 h8, ?_⟩
    show J (sI σ 5 i 8 (c + 1)) 58 [(0, mR 0 0), (1, mR 5 i), (2, mI c), (3, mR 6 i), (4, mI a), (5, mI b)] []
    rw [← hσ1]
    obtain ⟨x, hx⟩ : ∃ x, x = idS σ i := ⟨_, rfl⟩
    rw [← hx] at hperf eid
    have hxA : x ∈ yA y1 := by rw [eA1, hx]; exact h.mA hi
    -- the end of each case
    have fin : ∀ {τ : mS} {al' sp' rd' en' : List Nat} {ts' : List mT} {y' : Yd}, RCw τ y' al' sp' rd' en' ts' RC0 → yAct y1 x op a b = y' → Stab al σ1 al' τ (yL y) → J τ 360 [(0, mR 0 0), (1, mR 5 i), (2, mI c), (3, mR 6 i), (4, mI a), (5, mI b)] [] := by
      intro τ al' sp' rd' en' ts' y' f e st
      refine stp_j hJ 1 ⟨rfl, al', sp', rd', en', ts', ?_, ?_⟩
      · rw [← hx, hperf, e]
        exact f
      · exact (Stab.rf (L := yL y) (h.same f1 eA1)).tr st (Int32.le_refl _)
    have finS : ∀ {τ : mS} {sp' rd' en' : List Nat} {ts' : List mT} {y' : Yd}, RCw τ y' al sp' rd' en' ts' RC0 → yAct y1 x op a b = y' → yA y' = yA y1 → J τ 360 [(0, mR 0 0), (1, mR 5 i), (2, mI c), (3, mR 6 i), (4, mI a), (5, mI b)] [] := fun f e eA => fin f e (Stab.rf (f1.same f eA))
    have hA : (op = 3 ∨ op = 9) ∨ (0 ≤ a ∧ a < 4) := ok.2.2.1.elim (fun z => Or.inl (Or.inl z)) (fun z => z.elim (fun z => Or.inl (Or.inr z)) Or.inr)
    have rgA : 0 ≤ a ∧ a < 4 → ix a 4 a.toNatClampNeg ∧ σ1.1 6 i a.toNatClampNeg = yF y1 (rg a) x := fun z => by
      have hix := ix_of z.1 z.2 (n := 4) rfl
      refine ⟨hix, ?_⟩
      have := (f1.2.2.2.1 i hi).1.2.2.2.2.2.2.2.2 _ (clamp_lt hix)
      rw [eid] at this
      exact this
    have rgB : 0 ≤ b ∧ b < 4 → ix b 4 b.toNatClampNeg ∧ σ1.1 6 i b.toNatClampNeg = yF y1 (rg b) x := fun z => by
      have hix := ix_of z.1 z.2 (n := 4) rfl
      refine ⟨hix, ?_⟩
      have := (f1.2.2.2.1 i hi).1.2.2.2.2.2.2.2.2 _ (clamp_lt hix)
      rw [eid] at this
      exact this
    have lit : ∀ {k : Int32} {n : Int}, op.toInt = n → k.toInt = n → op = k := fun h1 h2 => Int32.toInt_inj.mp (h1.trans h2.symm)
    refine stp_j hJ 6 ⟨i0, i1, i2 (by decide), _, hix, _, op1, fun n u hu hn => ?_, fun hn => ?_⟩
    · match n, hu, hn with
      | 0, hu, hn =>
        cases hu
        have e := lit (k := 0) hn rfl
        obtain ⟨ra, -⟩ := rgA (hA.resolve_left (by rw [e]; decide))
        refine stp_j hJ 5 ⟨i6 h8, _, ra, ?_⟩
        have f2 := f1.reg q1.1.1.1 hi (r := a.toNatClampNeg) b
        rw [eid] at f2
        exact finS f2 (by rw [yAct, if_pos e]; rfl) rfl
      | 1, hu, hn =>
        cases hu
        have e := lit (k := 1) hn rfl
        obtain ⟨ra, va⟩ := rgA (hA.resolve_left (by rw [e]; decide))
        obtain ⟨rb, vb⟩ := rgB (ok.2.2.2.1 (Or.inl e))
        refine stp_j hJ 10 ⟨i6 h8, _, ra, _, va, i6 h8, _, rb, _, vb, _, rfl, i6 h8, _, ra, ?_⟩
        have f2 := f1.reg q1.1.1.1 hi (r := a.toNatClampNeg) (yF y1 (rg a) x + yF y1 (rg b) x)
        rw [eid] at f2
        exact finS f2 (by rw [yAct, e, if_neg (by decide), if_pos rfl]; rfl) rfl
      | 2, hu, hn =>
        cases hu
        have e := lit (k := 2) hn rfl
        obtain ⟨ra, va⟩ := rgA (hA.resolve_left (by rw [e]; decide))
        obtain ⟨rb, vb⟩ := rgB (ok.2.2.2.1 (Or.inr (Or.inl e)))
        have ey : yAct y1 x op a b = if yF y1 (rg a) x < yF y1 (rg b) x then setF y1 3 x (yF y1 3 x + 1) else y1 := by
          rw [yAct, e, if_neg (by decide), if_neg (by decide), if_pos rfl]
        have c1 : yF y1 3 x = c + 1 := by
          rw [hy1, ← hx]
          exact up2_s _ _ _ _
        refine stp_j hJ 8 ⟨i6 h8, _, ra, _, va, i6 h8, _, rb, _, vb, fun h2 => ?_, fun h2 => ?_⟩
        · have f2 := f1.cell q1.1.1.1 hi (c + 1)
          rw [eid] at f2
          refine stp_j hJ 5 ⟨_, rfl, i5 h8, ?_⟩
          refine finS (y' := setF y1 3 x (c + 1)) f2 ?_ rfl
          rw [ey, if_neg (Int32.not_lt.mpr h2)]
          rw [hy1, ← hx]
          unfold setF
          have : up2 (yF (vF y (up2 (yF y) 3 x (c + 1)))) 3 x (c + 1) = up2 (yF y) 3 x (c + 1) := by
            funext m z
            show up2 (up2 (yF y) 3 x (c + 1)) 3 x (c + 1) m z = _
            unfold up2
            split <;> rfl
          rw [this]
          rfl
        · have e2 : (c + 1 : Int32) + 1 = c + 2 := by rw [Int32.add_assoc]; rfl
          have f2 := f1.cell q1.1.1.1 hi (c + 2)
          rw [eid] at f2
          refine stp_j hJ 6 ⟨_, rfl, i5 h8, ?_⟩
          refine finS (y' := setF y1 3 x (c + 2)) f2 ?_ rfl
          rw [ey, if_pos (Int32.not_le.mp h2), c1, e2]
      | 3, hu, hn =>
        cases hu
        have e := lit (k := 3) hn rfl
        have f2 := f1.cell q1.1.1.1 hi b
        rw [eid] at f2
        refine stp_j hJ 4 ⟨i5 h8, ?_⟩
        exact finS f2 (by rw [yAct, e, if_neg (by decide), if_neg (by decide), if_neg (by decide), if_pos rfl]) rfl
      | 4, hu, hn =>
        cases hu
        have e := lit (k := 4) hn rfl
        obtain ⟨ra, va⟩ := rgA (hA.resolve_left (by rw [e]; decide))
        obtain ⟨rb, vb⟩ := rgB (ok.2.2.2.1 (Or.inr (Or.inr e)))
        refine stp_j hJ 10 ⟨i6 h8, _, ra, _, va, i5 h8, _, eid, i6 h8, _, rb, _, vb, trivial, ⟨i0, trivial⟩, _, c_sendTo f1 q1.1.1 q1.1.2.1 q1.1.2.2.1 _ _ _, ?_⟩
        rintro o τ ⟨rfl, ⟨rd', ts', f2⟩, -⟩
        refine stp_j hJ 1 ?_
        refine finS f2 (by rw [yAct, e, if_neg (by decide), if_neg (by decide), if_neg (by decide), if_neg (by decide), if_pos rfl]) ?_
        split
        · exact yA_del _ _ _ _
        · rfl
      | 5, hu, hn =>
        cases hu
        have e := lit (k := 5) hn rfl
        have a4 := hA.resolve_left (by rw [e]; decide)
        refine stp_j hJ 5 ⟨trivial, ⟨i0, trivial⟩, _, c_takeMessage f1 q1.1.1 hN1 hi a b a4.1 a4.2, ?_⟩
        rintro o τ ⟨rfl, rd', ts', f2⟩
        rw [eid] at f2
        refine stp_j hJ 1 ?_
        refine finS f2 (by rw [yAct, e, if_neg (by decide), if_neg (by decide), if_neg (by decide), if_neg (by decide), if_neg (by decide), if_pos rfl]) ?_
        unfold yTake
        split
        · rfl
        · split
          · unfold yClock
            split <;> rfl
          · rfl
      | 6, hu, hn =>
        cases hu
        have e := lit (k := 6) hn rfl
        obtain ⟨ra, va⟩ := rgA (hA.resolve_left (by rw [e]; decide))
        refine stp_j hJ 9 ⟨i6 h8, _, ra, _, va, trivial, ⟨i0, trivial⟩, _, c_beginActor f1 q1.1.1 (fun k hk => (q1.1.2.2.2.2.2.2.1 k hk).2) q1.1.2.2.2.2.2.1 q1.2.2.1 hL1 b _ 0, ?_⟩
        rintro o τ ⟨al', sp', rd', f2, rfl, st1, st2⟩
        have qb := q1.begin hL1 b (yF y1 (rg a) x) 0
        have f3 := f2.reg qb.1.1.1 (st1 i hi).1 (r := a.toNatClampNeg) (bgI (yBegin y1 b (yF y1 (rg a) x) 0).2)
        rw [(st1 i hi).2, eid] at f3
        refine stp_j hJ 2 ⟨i6 h8, _, ra, ?_⟩
        refine fin f3 ?_ (by rw [← eL1]; exact st2)
        rw [yAct, e, if_neg (by decide), if_neg (by decide), if_neg (by decide), if_neg (by decide), if_neg (by decide), if_neg (by decide), if_pos rfl]
        unfold ySpawn
        cases hb2 : yBegin y1 b (yF y1 (rg a) x) 0 with
        | mk z o => cases o <;> rfl
      | 7, hu, hn =>
        cases hu
        have e := lit (k := 7) hn rfl
        obtain ⟨ra, va⟩ := rgA (hA.resolve_left (by rw [e]; decide))
        refine stp_j hJ 10 ⟨i6 h8, _, ra, _, va, i5 h8, _, eid, trivial, ⟨i0, trivial⟩, _, c_beginActor f1 q1.1.1 (fun k hk => (q1.1.2.2.2.2.2.2.1 k hk).2) q1.1.2.2.2.2.2.1 q1.2.2.1 hL1 b _ x, ?_⟩
        rintro o τ ⟨al', sp', rd', f2, rfl, st1, st2⟩
        have qb := q1.begin hL1 b (yF y1 (rg a) x) x
        have f3 := f2.reg qb.1.1.1 (st1 i hi).1 (r := a.toNatClampNeg) (bgI (yBegin y1 b (yF y1 (rg a) x) x).2)
        rw [(st1 i hi).2, eid] at f3
        refine stp_j hJ 2 ⟨i6 h8, _, ra, ?_⟩
        refine fin f3 ?_ (by rw [← eL1]; exact st2)
        rw [yAct, e, if_neg (by decide), if_neg (by decide), if_neg (by decide), if_neg (by decide), if_neg (by decide), if_neg (by decide), if_neg (by decide), if_pos rfl]
        unfold ySpawn
        cases hb2 : yBegin y1 b (yF y1 (rg a) x) x with
        | mk z o => cases o <;> rfl
      | 8, hu, hn =>
        cases hu
        have e := lit (k := 8) hn rfl
        have a4 := hA.resolve_left (by rw [e]; decide)
        refine stp_j hJ 4 ⟨trivial, ⟨i0, trivial⟩, _, c_makeLink f1 q1.1.1 q1.1.2.1 q1.1.2.2.1 q1.1.2.2.2.1 hi a a4.1 a4.2, ?_⟩
        rintro o τ ⟨rfl, rd', en', ts', f2⟩
        rw [eid] at f2
        refine stp_j hJ 1 ?_
        refine finS f2 (by rw [yAct, e, if_neg (by decide), if_neg (by decide), if_neg (by decide), if_neg (by decide), if_neg (by decide), if_neg (by decide), if_neg (by decide), if_neg (by decide), if_pos rfl]) ?_
        unfold yLink
        split
        · exact yA_exit _ _ _ _
        · split
          · rfl
          · split <;> rfl
      | 9, hu, hn =>
        cases hu
        have e := lit (k := 9) hn rfl
        have ey : yAct y1 x op a b = setB y1 0 x (decide (b ≠ 0)) := by rw [yAct, e, if_neg (by decide), if_neg (by decide), if_neg (by decide), if_neg (by decide), if_neg (by decide), if_neg (by decide), if_neg (by decide), if_neg (by decide), if_neg (by decide), if_pos rfl]
        refine stp_j hJ 3 ⟨fun h2 => ?_, fun h2 => ?_⟩
        · have f2 := f1.traps q1.1.1.1 hi false
          rw [eid] at f2
          refine stp_j hJ 3 ⟨i5 h8, Or.inl rfl, ?_⟩
          exact finS f2 (by rw [ey]; simp [show b = 0 from h2]) rfl
        · have f2 := f1.traps q1.1.1.1 hi true
          rw [eid] at f2
          refine stp_j hJ 4 ⟨i5 h8, Or.inr rfl, ?_⟩
          exact finS f2 (by rw [ey]; simp [show ¬ b = 0 from h2]) rfl
      | 10, hu, hn =>
        cases hu
        have e := lit (k := 10) hn rfl
        obtain ⟨ra, va⟩ := rgA (hA.resolve_left (by rw [e]; decide))
        refine stp_j hJ 6 ⟨i6 h8, _, ra, _, va, trivial, ⟨i0, trivial⟩, _, c_comeToEnd f1 q1.1.1.1 q1.1.2.2.2.1 hi _, ?_⟩
        rintro o τ ⟨rfl, ⟨en', f2⟩, -⟩
        rw [eid] at f2
        refine stp_j hJ 1 ?_
        exact finS f2 (by rw [yAct, e, if_neg (by decide), if_neg (by decide), if_neg (by decide), if_neg (by decide), if_neg (by decide), if_neg (by decide), if_neg (by decide), if_neg (by decide), if_neg (by decide), if_neg (by decide), if_pos rfl]) (yA_end _ _ _)
      | 11, hu, hn =>
        cases hu
        have e := lit (k := 11) hn rfl
        obtain ⟨ra, va⟩ := rgA (hA.resolve_left (by rw [e]; decide))
        refine stp_j hJ 8 ⟨i0, i6 h8, _, ra, _, va, i5 h8, _, eid, trivial, ⟨i15, trivial⟩, _, c_Out_add f1.2.2.2.2.2.2.1 _ _, ?_⟩
        rintro o τ ⟨rfl, c2, f2⟩
        have f3 := f1.outs c2 f2
        refine stp_j hJ 1 ?_
        refine finS f3 ?_ rfl
        rw [yAct, e, if_neg (by decide), if_neg (by decide), if_neg (by decide), if_neg (by decide), if_neg (by decide), if_neg (by decide), if_neg (by decide), if_neg (by decide), if_neg (by decide), if_neg (by decide), if_neg (by decide), if_pos rfl]
        unfold yPut
        split
        · rfl
        · rfl
      | 12, hu, hn =>
        cases hu
        have e := lit (k := 12) hn rfl
        obtain ⟨ra, va⟩ := rgA (hA.resolve_left (by rw [e]; decide))
        refine stp_j hJ 6 ⟨i5 h8, _, eid, i6 h8, _, ra, ?_⟩
        have f2 := f1.reg q1.1.1.1 hi (r := a.toNatClampNeg) x
        rw [eid] at f2
        exact finS f2 (by rw [yAct, e, if_neg (by decide), if_neg (by decide), if_neg (by decide), if_neg (by decide), if_neg (by decide), if_neg (by decide), if_neg (by decide), if_neg (by decide), if_neg (by decide), if_neg (by decide), if_neg (by decide), if_neg (by decide), if_pos rfl]; rfl) rfl
      | 13, hu, hn =>
        cases hu
        have e := lit (k := 13) hn rfl
        obtain ⟨ra, va⟩ := rgA (hA.resolve_left (by rw [e]; decide))
        refine stp_j hJ 14 ⟨i0, i5 h8, _, eid, i0, _, rfl, _, rfl, _, rfl, i6 h8, _, ra, _, va, trivial, ⟨i11, trivial⟩, _, c_Tm_add f1.2.2.2.2.2.1.1 x _ (yF y1 (rg a) x) false, ?_⟩
        rintro o τ ⟨rfl, c2, f2⟩
        obtain ⟨ts', f3⟩ := f1.clockAdd (b := b) (now_add f1 hN1 b) c2 f2
        refine stp_j hJ 1 ?_
        refine finS f3 ?_ ?_
        · rw [yAct, e, if_neg (by decide), if_neg (by decide), if_neg (by decide), if_neg (by decide), if_neg (by decide), if_neg (by decide), if_neg (by decide), if_neg (by decide), if_neg (by decide), if_neg (by decide), if_neg (by decide), if_neg (by decide), if_neg (by decide)]
        · unfold yClock
          split <;> rfl
      | n + 14, hu, hn => simp at hu
    · exfalso
      have a1 : (0 : Int) ≤ op.toInt := by simpa [Int32.le_iff_toInt_le] using ok.1
      have a2 : op.toInt ≤ 13 := by simpa [Int32.le_iff_toInt_le] using ok.2.1
      simp at hn
      omega
  · refine stp_j hJ 1 ⟨fun z => absurd rfl z, fun _ => ?_⟩
    refine stp_j hJ 4 ⟨trivial, ⟨i0, trivial⟩, _, c_comeToEnd h qi.1.1 qi.2.2.2.1 hi (-5), ?_⟩
    rintro o τ ⟨rfl, ⟨en', f2⟩, -⟩
    refine stp_j hJ 1 ⟨rfl, al, sp, rd, en', ts, ?_, Stab.rf (h.same f2 (yA_end _ _ _))⟩
    unfold yPerf
    rw [← hc, if_neg (fun z => hf ⟨z.1, z.2.1, by rw [h.2.2.2.2.2.2.2.1 0 (by decide) _ (clamp_lt (ix_of z.1 z.2.1 (n := 48) rfl))]; exact z.2.2⟩)]
    exact f2
end PERF
