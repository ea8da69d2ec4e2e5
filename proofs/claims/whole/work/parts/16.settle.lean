/-! An ending is dealt with -/
section SETTLE
variable {σ : mS} {y : Yd} {al sp rd en : List Nat} {ts : List mT} {g : Nat → Int32 → Bool}
theorem RCw.begun (h : RCw σ y al sp rd en ts g) (q : Srt y) {i : Nat} (hi : i ∈ al) (v : Int32) : RCw (sI σ 5 i 12 v) (setF y 5 (idS σ i) v) al sp rd en ts g := by
  refine ⟨h.1, h.2.1, h.2.2.1, fun k hk => ⟨?_, (h.2.2.2.1 k hk).2.1, (h.2.2.2.1 k hk).2.2⟩, h.2.2.2.2.1, h.2.2.2.2.2.1, h.2.2.2.2.2.2.1, h.2.2.2.2.2.2.2.1, h.2.2.2.2.2.2.2.2.1, h.2.2.2.2.2.2.2.2.2⟩
  obtain ⟨f0, f1, f2, f3, f4, f5, b0, b1, rr⟩ := (h.2.2.2.1 k hk).1
  refine ⟨f0, f1, f2, f3, f4, ?_, b0, b1, fun r hr => ?_⟩
  · show u3 σ.1 5 i 12 v 5 k 12 = up2 (yF y) 5 (idS σ i) v 5 (idS σ k)
    by_cases e : k = i
    · subst e
      rw [u3_s, up2_s]
    · rw [u3_other e, up2_o (fun z => e (h.inj q hk hi z))]
      exact f5
  · show σ.1 6 k r = up2 (yF y) 5 (idS σ i) v (8 + r) (idS σ k)
    rw [rr r hr]
    unfold up2
    rw [if_neg (by omega)]
theorem RCw.hist (h : RCw σ y al sp rd en ts g) (q : Srt y) {i : Nat} (hi : i ∈ al) {τ : mS} {n : Int64} (hn : n.toInt = (yN y : Int)) (t1 : τ.1 = u3 σ.1 5 i 12 (σ.1 5 i 12 + 1)) (t2 : τ.2.2 = σ.2.2) (t3 : ∀ a b, ¬ (a = 7 ∧ b = i) → τ.2.1 a b = σ.2.1 a b) (t4 : τ.2.1 7 i 0 = σ.2.1 7 i 1) (t5 : τ.2.1 7 i 1 = σ.2.1 7 i 2) (t6 : τ.2.1 7 i 2 = n) : RCw τ (yHist y (idS σ i)) al sp rd en ts g := by
  have eb : σ.1 5 i 12 = yF y 5 (idS σ i) := (h.2.2.2.1 i hi).1.2.2.2.2.2.1
  have f1 := h.begun q hi (σ.1 5 i 12 + 1)
  obtain ⟨τ1, τ2, τ3⟩ := τ
  dsimp only at t1 t2 t3 t4 t5 t6
  subst t1 t2
  have nk : ∀ k i', ¬ k = 7 → τ2 k i' = σ.2.1 k i' := fun k i' hk => t3 k i' (fun z => hk z.1)
  have c : Ch (fun k i' => k = 7 ∧ i' = i) (sI σ 5 i 12 (σ.1 5 i 12 + 1)) (u3 σ.1 5 i 12 (σ.1 5 i 12 + 1), τ2, σ.2.2) := fun k i' hk => ⟨rfl, t3 k i' hk, rfl⟩
  refine ⟨f1.1, f1.2.1, f1.2.2.1, fun k hk => ⟨?_, ?_, ?_⟩, f1.2.2.2.2.1, ⟨f1.2.2.2.2.2.1.1.ch c (by omega) (by omega) (by omega) (by omega) (by omega), f1.2.2.2.2.2.1.2⟩, f1.2.2.2.2.2.2.1, f1.2.2.2.2.2.2.2.1, ?_, f1.2.2.2.2.2.2.2.2.2⟩
  · have := (f1.2.2.2.1 k hk).1
    rw [eb] at this ⊢
    exact this
  · show (τ2 7 k 0).toInt = (up1 (yH y) (idS σ i) _ (idS σ k)).1 ∧ (τ2 7 k 1).toInt = (up1 (yH y) (idS σ i) _ (idS σ k)).2.1 ∧ (τ2 7 k 2).toInt = (up1 (yH y) (idS σ i) _ (idS σ k)).2.2
    unfold up1
    by_cases e : k = i
    · subst e
      rw [if_pos rfl, t4, t5, t6]
      obtain ⟨-, g1, g2⟩ := (h.2.2.2.1 k hk).2.1
      exact ⟨g1, g2, hn⟩
    · rw [if_neg (fun z => e (h.inj q hk hi z)), t3 7 k (fun z => e z.2)]
      exact (h.2.2.2.1 k hk).2.1
  · exact (f1.2.2.2.1 k hk).2.2
  · obtain ⟨s1, s2, s3, s4⟩ := h.2.2.2.2.2.2.2.2.1
    exact ⟨by show (τ2 0 0 7).toInt = _; rw [nk 0 0 (by decide)]; exact s1, s2, s3, s4⟩
theorem c_tellOverseer (h : RCw σ y al sp rd en ts RC0) (q : InvY y) (qk : KA y) (hL : (yL y).toInt < 2147483647) (hN : yN y < 2 ^ 31) {e : Nat} (he : e ∈ sp) {x : Int32} (h7 : σ.1 5 e 7 = yF y 2 x) (h5 : σ.1 5 e 5 = yF y 0 x) (h6 : σ.1 5 e 6 = yF y 1 x) : Meets clC yX6_tellOverseer (kX6_tellOverseer :: wT) rX6_tellOverseer [mR 0 0, mR 5 e] σ (fun o τ => o = none ∧ ∃ al' sp' rd' en' ts', RCw τ (yTell y x) al' sp' rd' en' ts' RC0 ∧ Stab al σ al' τ (yL y)) := by
  refine Meets.of SX6_tellOverseer rfl (by decide) rfl (Nat.le_of_ble_eq_true rfl) ?_
  intro J hJ
  have e8 := h.sp8 he
  refine stp_j hJ 5 ⟨i0, i5 e8, _, h7, trivial, ⟨i3 (by decide), trivial⟩, _, c_Line_find (by decide) h.1.1 _, ?_⟩
  rintro o τ ⟨w, rfl⟩
  have w := w.symm
  subst w
  rcases h.find (yF y 2 x) with ⟨k, hf, hk, ek, hv⟩ | ⟨hf, hv⟩
  · rw [hf]
    have k8 := h.lt8 hk
    have hne : ¬ e = k := h.apart hk he
    have hnow := h.2.2.2.2.2.2.2.2.1.1
    have h10 : (σ.2.1 0 0 7 - 10).toInt = (yN y : Int) - 10 := by
      have e10 : (-10 : Int64).toInt = -10 := rfl
      rw [Int64.sub_eq_add_neg, l64_add (by rw [hnow, e10]; omega) (by rw [hnow, e10]; omega), hnow, e10]
      omega
    have hh := (h.2.2.2.1 k hk).2.1.1
    rw [ek] at hh
    refine stp_j hJ 3 ?_
    refine stp_j hJ 4 ⟨i0, _, rfl, trivial, ⟨i5 k8, trivial⟩, _, c_Ac_mayBeginAnew k8 _, ?_⟩
    rintro o τ ⟨w, hy⟩
    have w := w.symm
    subst w
    rcases hy with ⟨rfl, hb⟩ | ⟨rfl, hb⟩
    · have hb2 : (yH y (yF y 2 x)).1 ≤ (yN y : Int) - 10 := by
        rw [← h10, ← hh]
        exact Int64.le_iff_toInt_le.mp hb
      refine stp_j hJ 1 ⟨fun z => absurd z (by decide), fun _ => ?_⟩
      refine stp_j hJ 4 ⟨i0, _, rfl, trivial, ⟨i5 k8, trivial⟩, _, c_Ac_noteBegunAnew k8 _, ?_⟩
      rintro o τ ⟨rfl, t1, t2, t3, t4, t5, t6⟩
      have f1 := h.hist q.1.1 hk hnow t1 t2 t3 t4 t5 t6
      rw [ek] at f1
      have o5 : ∀ f, τ.1 5 e f = σ.1 5 e f := fun f => by rw [t1]; exact u3_other hne
      have q1 : InvQ (yHist y (yF y 2 x)) := q.1
      refine stp_j hJ 8 ⟨i5 e8, _, (o5 5).trans h5, i5 e8, _, (o5 6).trans h6, i5 e8, _, (o5 7).trans h7, trivial, ⟨i0, trivial⟩, _, c_beginActor f1 q1 (fun i hi => (q.2.2.2.2.2.2.1 i hi).2) q.2.2.2.2.2.1 qk hL _ _ _, ?_⟩
      rintro o υ ⟨al', sp', rd', f2, rfl, -, st2⟩
      refine stp_j hJ 3 ⟨rfl, al', sp', rd', en, ts, ?_, ?_⟩
      · rw [yTell, if_pos hv, if_pos hb2]
        exact f2
      · exact (Stab.rf (L := yL y) (h.same f1 rfl)).tr st2 (Int32.le_refl _)
    · have hb2 : ¬ (yH y (yF y 2 x)).1 ≤ (yN y : Int) - 10 := by
        rw [← h10, ← hh]
        exact fun z => hb (Int64.le_iff_toInt_le.mpr z)
      refine stp_j hJ 1 ⟨fun _ => ?_, fun z => absurd rfl z⟩
      refine stp_j hJ 4 ⟨trivial, ⟨i0, trivial⟩, _, c_comeToEnd h q.1.1 q.2.2.2.1 hk (-3), ?_⟩
      rintro o τ ⟨rfl, ⟨en', f⟩, -⟩
      refine stp_j hJ 1 ⟨rfl, al, sp, rd, en', ts, ?_, Stab.rf (h.same f (yA_end _ _ _))⟩
      rw [yTell, if_pos hv, if_neg hb2, ← ek]
      exact f
  · rw [hf]
    refine stp_j hJ 4 ⟨rfl, al, sp, rd, en, ts, ?_, Stab.rf (fun _ _ => rfl)⟩
    rw [yTell, if_neg hv]
    exact h
theorem yExits_A (x r : Int32) : ∀ (l : List Int32) (y : Yd), yA (yExits x r l y) = yA y
  | [], _ => rfl
  | z :: l, y => by
    unfold yExits
    rw [yExits_A x r l]
    split
    · rw [yA_exit]
      rfl
    · rfl
theorem drop_cons {α : Type} {l rest : List α} {a : α} {n : Nat} (h : l.drop n = a :: rest) : n < l.length ∧ l[n]? = some a ∧ l.drop (n + 1) = rest := by
  refine ⟨?_, ?_, ?_⟩
  · have := congrArg List.length h
    simp at this
    omega
  · have := congrArg (fun z => z[0]?) h
    simpa using this
  · rw [← List.drop_drop, h]
    rfl
theorem c_settle (h : RCw σ y al sp rd en ts RC0) (q : InvY y) (qu : KU y) (qk : KA y) (qd : ∀ p ∈ yK y, ¬ p.1 = p.2) (hL : (yL y).toInt < 2147483647) (hN : yN y < 2 ^ 31) {e : Nat} {en0 : List Nat} (hen : en = e :: en0) : Meets clC yX6_settle (kX6_settle :: wT) rX6_settle [mR 0 0, mR 5 e] σ (fun o τ => o = none ∧ ∃ al' sp' rd' en' ts', RCw τ (ySettle y) al' sp' rd' en' ts' RC0 ∧ Stab al σ al' τ (yL y)) := by
  refine Meets.of SX6_settle rfl (by decide) rfl (Nat.le_of_ble_eq_true rfl) ?_
  intro J hJ
  have he : e ∈ al := h.2.1.2.2.2 e (by rw [hen]; exact List.mem_cons_self)
  have e8 := h.lt8 he
  have hnA := h.ndA
  obtain ⟨x, hx⟩ : ∃ x, x = idS σ e := ⟨_, rfl⟩
  obtain ⟨r, hr⟩ : ∃ r, r = σ.1 5 e 13 := ⟨_, rfl⟩
  have hyE : yE y = (x, r) :: en0.map (fun i => (idS σ i, σ.1 5 i 13)) := by
    rw [← h.2.2.1.2.2, hen, hx, hr]
    rfl
  have hxA : x ∈ yA y := by rw [hx]; exact h.mA he
  have q1 := q.bury hyE
  obtain ⟨y1, hy1⟩ : ∃ y1, y1 = yBury y x := ⟨_, rfl⟩
  have hA1 : yA y1 = (yA y).erase x := by rw [hy1]; rfl
  have hx1 : ¬ x ∈ yA y1 := by
    rw [hA1]
    exact fun z => ((pw_nd q.1.1).mem_erase_iff.mp z).1 rfl
  have fF := (h.2.2.2.1 e he).1
  have fE : ySettle y = if r = 0 then yOrph x (yA y1) (yExits x r (yA y1) y1) else yTell (yOrph x (yA y1) (yExits x r (yA y1) y1)) x := by
    unfold ySettle
    rw [hyE, hy1]
  have hndE := h.ndE q.2.2.2.1
  refine stp_j hJ 3 ⟨trivial, ⟨i0, trivial⟩, _, c_bury h q.1 q.2.2.1 hen hndE, ?_⟩
  rintro o τ0 ⟨rfl, ⟨ts0, f0⟩, k5⟩
  rw [← hx, ← hy1] at f0
  rw [← hy1] at q1
  have esp : e ∈ sp ++ [e] := List.mem_append_right _ (List.mem_singleton.mpr rfl)
  have hea : ¬ e ∈ al.erase e := nd_erase hnA
  have hl8 : (al.erase e).length ≤ 8 := f0.1.1.2.1
  have idm : ∀ {τ : mS} {y' : Yd} {rd' en' : List Nat} {ts' : List mT} {g' : Nat → Int32 → Bool}, RCw τ y' (al.erase e) (sp ++ [e]) rd' en' ts' g' → yA y' = yA y1 → ∀ {n i : Nat} {rest : List Nat}, (al.erase e).drop n = i :: rest → (yA y1).drop n = idS τ i :: (yA y1).drop (n + 1) ∧ (yA y1)[n]? = some (idS τ i) := by
    intro τ y' rd' en' ts' g' f hA n i rest hd
    obtain ⟨a1, a2, a3⟩ := drop_cons hd
    have hm := f.2.2.1.1
    rw [hA] at hm
    have h2 : (yA y1)[n]? = some (idS τ i) := by rw [← hm, List.getElem?_map, a2]; rfl
    refine ⟨?_, h2⟩
    have hlt : n < (yA y1).length := (List.getElem?_eq_some_iff.mp h2).1
    rw [List.drop_eq_getElem_cons hlt]
    congr 1
    rw [List.getElem?_eq_getElem hlt] at h2
    exact Option.some.inj h2
  have stb : ∀ (τ : mS) (rd' en' : List Nat) (ts' : List mT) (y' : Yd), RCw τ y' (al.erase e) (sp ++ [e]) rd' en' ts' RC0 → yA y' = yA y1 → Stab al σ (al.erase e) τ (yL y) := fun τ rd' en' ts' y' f hA k hk =>
    Or.inl ⟨List.mem_of_mem_erase hk, (f0.same f hA k hk).trans (by unfold idS; rw [k5])⟩
  -- the children and the overseer
  have tail : ∀ (τ : mS) (y' : Yd) (rd' en' : List Nat) (ts' : List mT), RCw τ y' (al.erase e) (sp ++ [e]) rd' en' ts' RC0 → InvY y' → KA y' → yA y' = yA y1 → Dead (sp ++ [e]) σ τ → (∀ n, ¬ n = 4 → ∀ z, yF y' n z = yF y n z) → yL y' = yL y → yN y' = yN y → y' = yOrph x (yA y1) (yExits x r (yA y1) y1) → ∀ v w, J τ 108 [(0, mR 0 0), (1, mR 5 e), (2, v), (3, w)] [] ∧ J τ 108 [(0, mR 0 0), (1, mR 5 e), (2, v)] [] := by
    intro τ y' rd' en' ts' f qy ka hA dd hF hLy hNy hy v w
    have key : ∀ v, J τ 108 [(0, mR 0 0), (1, mR 5 e), (2, v)] [] := by
      intro v
      have dr := dd e esp 13 (by decide)
      refine stp_j hJ 3 ⟨i5 e8, _, dr.trans hr.symm, fun h0 => ?_, fun h0 => ?_⟩
      · refine stp_j hJ 1 ⟨rfl, al.erase e, sp ++ [e], rd', en', ts', ?_, stb τ rd' en' ts' y' f hA⟩
        rw [fE, if_pos h0, ← hy]
        exact f
      · have g7 : τ.1 5 e 7 = yF y' 2 x := by rw [dd e esp 7 (by decide), hF 2 (by decide), hx]; exact fF.2.2.1
        have g5 : τ.1 5 e 5 = yF y' 0 x := by rw [dd e esp 5 (by decide), hF 0 (by decide), hx]; exact fF.1
        have g6 : τ.1 5 e 6 = yF y' 1 x := by rw [dd e esp 6 (by decide), hF 1 (by decide), hx]; exact fF.2.1
        refine stp_j hJ 3 ⟨trivial, ⟨i0, trivial⟩, _, c_tellOverseer f qy ka (by rw [hLy]; exact hL) (by rw [hNy]; exact hN) esp g7 g5 g6, ?_⟩
        rintro o υ ⟨rfl, al', sp', rd'', en'', ts'', f2, st2⟩
        refine stp_j hJ 1 ⟨rfl, al', sp', rd'', en'', ts'', ?_, (stb τ rd' en' ts' y' f hA).tr st2 (by rw [hLy]; exact Int32.le_refl _)⟩
        rw [fE, if_neg h0, ← hy]
        exact f2
    exact ⟨j_pre hJ (lv := [(0, mR 0 0), (1, mR 5 e), (2, v)]) (ext := [(3, w)]) (key v), key v⟩
  have loop2 : ∀ (rest : List Nat) (n : Nat) (τ : mS) (y' : Yd) (rd' en' : List Nat) (ts' : List mT), n < 2 ^ 31 → (al.erase e).drop n = rest → RCw τ y' (al.erase e) (sp ++ [e]) rd' en' ts' RC0 → InvY y' → KA y' → yA y' = yA y1 → Dead (sp ++ [e]) σ τ → (∀ n, ¬ n = 4 → ∀ z, yF y' n z = yF y n z) → yL y' = yL y → yN y' = yN y → yOrph x ((yA y1).drop n) y' = yOrph x (yA y1) (yExits x r (yA y1) y1) → J τ 63 [(0, mR 0 0), (1, mR 5 e), (2, mI (nI n))] [] := by
    intro rest
    induction rest with
    | nil =>
      intro n τ y' rd' en' ts' hb hd f qy ka hA dd hF hLy hNy hy
      have hge : (al.erase e).length ≤ n := List.drop_eq_nil_iff.mp hd
      refine stp_j hJ 5 ⟨i0, i3 (by decide), _, f.1.1.1, fun h2 => ?_, fun h2 => ?_⟩
      · refine (tail τ y' rd' en' ts' f qy ka hA dd hF hLy hNy ?_ _ (mI 0)).2
        rw [← hy]
        have : (yA y1).length ≤ n := by rw [← hA, ← f.2.2.1.1, List.length_map]; exact hge
        rw [List.drop_of_length_le this]
        rfl
      · exact absurd (nI_le hge hb) h2
    | cons i rest ih =>
      intro n τ y' rd' en' ts' hb hd f qy ka hA dd hF hLy hNy hy
      obtain ⟨hlt, hxi, hdr⟩ := drop_cons hd
      have hi : i ∈ al.erase e := List.mem_of_getElem? hxi
      have h8 := f.lt8 hi
      obtain ⟨hid, -⟩ := idm f hA hd
      have hrow := (f.1.1.2.2 n i hxi).1
      have hov := (f.2.2.2.1 i hi).1.2.2.1
      have dx : τ.1 5 e 4 = x := (dd e esp 4 (by decide)).trans hx.symm
      rw [hid] at hy
      refine stp_j hJ 5 ⟨i0, i3 (by decide), _, f.1.1.1, fun h2 => ?_, fun h2 => ?_⟩
      · exact absurd h2 (nI_ge hlt (by omega))
      · refine stp_j hJ 11 ⟨i0, i3 (by decide), i4 (by decide), n, ix_nI (by omega) (by decide), _, hrow, i5 h8, _, hov, i5 e8, _, dx, fun h3 => ?_, fun h3 => ?_⟩
        · refine stp_j hJ 2 ⟨_, nI_1 n, ?_⟩
          refine j_pre hJ (lv := [(0, mR 0 0), (1, mR 5 e), (2, mI (nI (n + 1)))]) (ext := [(3, mR 5 i)]) ?_
          refine ih (n + 1) τ y' rd' en' ts' (by omega) hdr f qy ka hA dd hF hLy hNy ?_
          rw [← hy]
          show _ = yOrph x _ (if yF y' 2 (idS τ i) = x then _ else _)
          rw [if_neg h3]
        · have h3 : yF y' 2 (idS τ i) = x := Decidable.not_not.mp h3
          refine stp_j hJ 4 ⟨trivial, ⟨i0, trivial⟩, _, c_comeToEnd f qy.1.1 qy.2.2.2.1 hi (-2), ?_⟩
          rintro o υ ⟨rfl, ⟨en'', f2⟩, d2⟩
          refine stp_j hJ 2 ⟨_, nI_1 n, ?_⟩
          refine j_pre hJ (lv := [(0, mR 0 0), (1, mR 5 e), (2, mI (nI (n + 1)))]) (ext := [(3, mR 5 i)]) ?_
          refine ih (n + 1) υ _ rd' en'' ts' (by omega) hdr f2 (qy.end_ (f.mA hi) (-2)) ?_ (by rw [yA_end]; exact hA) (dd.tr d2) (fun n hn z => by rw [yF_end]; exact hF n hn z) (by rw [yL_end]; exact hLy) (by rw [yN_end]; exact hNy) ?_
          · intro p hp
            rw [yK_end] at hp
            rw [yA_end]
            exact ka p hp
          · rw [← hy]
            show _ = yOrph x _ (if yF y' 2 (idS τ i) = x then _ else _)
            rw [if_pos h3]
  have loop1 : ∀ (rest : List Nat) (n : Nat) (τ : mS) (y' : Yd) (rd' en' : List Nat) (ts' : List mT), n < 2 ^ 31 → (al.erase e).drop n = rest → RCw τ y' (al.erase e) (sp ++ [e]) rd' en' ts' (fun j z => if j = e then lkd y' z x else false) → InvY y' → KU y' → (∀ p ∈ yK y', p ∈ yK y) → yA y' = yA y1 → Dead (sp ++ [e]) σ τ → (∀ z ∈ (yA y1).take n, lkd y' z x = false) → (∀ n, ¬ n = 4 → ∀ z, yF y' n z = yF y n z) → yL y' = yL y → yN y' = yN y → yExits x r ((yA y1).drop n) y' = yExits x r (yA y1) y1 → J τ 7 [(0, mR 0 0), (1, mR 5 e), (2, mI (nI n))] [] := by
    intro rest
    induction rest with
    | nil =>
      intro n τ y' rd' en' ts' hb hd f qy ku ks hA dd hno hF hLy hNy hy
      have hge : (al.erase e).length ≤ n := List.drop_eq_nil_iff.mp hd
      have hge2 : (yA y1).length ≤ n := by rw [← hA, ← f.2.2.1.1, List.length_map]; exact hge
      rw [List.take_of_length_le hge2] at hno
      rw [List.drop_of_length_le hge2] at hy
      have hy : y' = yExits x r (yA y1) y1 := hy
      have f2 : RCw τ y' (al.erase e) (sp ++ [e]) rd' en' ts' RC0 := f.gc (fun i hi j hj hn => by
        show (if j = e then lkd y' (idS τ i) x else false) = false
        by_cases ej : j = e
        · rw [if_pos ej]
          exact hno _ (by rw [← hA]; exact f.mA hi)
        · rw [if_neg ej])
      have ka : KA y' := by
        intro p hp
        have hp0 := ks p hp
        have h1 := qk p hp0
        have h2 := qd p hp0
        have nd := pw_nd q.1.1
        rw [hA, hA1]
        have no1 : ¬ p.1 = x := fun z => by
          have hm : p.2 ∈ yA y1 := by rw [hA1]; exact nd.mem_erase_iff.mpr ⟨fun w => h2 (z.trans w.symm), h1.2⟩
          have := hno p.2 hm
          rw [show lkd y' p.2 x = true from List.any_eq_true.mpr ⟨p, hp, isK_iff.mpr (Or.inr ⟨z, rfl⟩)⟩] at this
          exact absurd this (by decide)
        have no2 : ¬ p.2 = x := fun z => by
          have hm : p.1 ∈ yA y1 := by rw [hA1]; exact nd.mem_erase_iff.mpr ⟨no1, h1.1⟩
          have := hno p.1 hm
          rw [show lkd y' p.1 x = true from List.any_eq_true.mpr ⟨p, hp, isK_iff.mpr (Or.inl ⟨rfl, z⟩)⟩] at this
          exact absurd this (by decide)
        exact ⟨nd.mem_erase_iff.mpr ⟨no1, h1.1⟩, nd.mem_erase_iff.mpr ⟨no2, h1.2⟩⟩
      refine stp_j hJ 5 ⟨i0, i3 (by decide), _, f.1.1.1, fun h2 => ?_, fun h2 => ?_⟩
      · refine stp_j hJ 2 ?_
        exact loop2 (al.erase e) 0 τ y' rd' en' ts' (by decide) rfl f2 qy ka hA dd hF hLy hNy (by rw [hy]; rfl)
      · exact absurd (nI_le hge hb) h2
    | cons i rest ih =>
      intro n τ y' rd' en' ts' hb hd f qy ku ks hA dd hno hF hLy hNy hy
      obtain ⟨hlt, hxi, hdr⟩ := drop_cons hd
      have hi : i ∈ al.erase e := List.mem_of_getElem? hxi
      have h8 := f.lt8 hi
      obtain ⟨hid, hnth⟩ := idm f hA hd
      have hrow := (f.1.1.2.2 n i hxi).1
      have dx : τ.1 5 e 4 = x := (dd e esp 4 (by decide)).trans hx.symm
      have dr : τ.1 5 e 13 = r := (dd e esp 13 (by decide)).trans hr.symm
      have hix : ¬ idS τ i = x := fun z => hx1 (by rw [← hA, ← z]; exact f.mA hi)
      have L : lb (τ.1 5 i 14) e = lkd y' (idS τ i) x := ((f.2.2.2.2.1 i hi e e8).2 hea).trans (if_pos rfl)
      rw [hid] at hy
      have tk : (yA y1).take (n + 1) = (yA y1).take n ++ [idS τ i] := by rw [List.take_succ, hnth]; rfl
      refine stp_j hJ 5 ⟨i0, i3 (by decide), _, f.1.1.1, fun h2 => ?_, fun h2 => ?_⟩
      · exact absurd h2 (nI_ge hlt (by omega))
      · refine stp_j hJ 9 ⟨i0, i3 (by decide), i4 (by decide), n, ix_nI (by omega) (by decide), _, hrow, trivial, ⟨i5 h8, trivial⟩, _, c_Ac_isLinkedWith h8 e8 (f.2.2.2.2.2.2.2.2.2.1 e e8), ?_⟩
        rintro o υ ⟨w, hyes⟩
        have w := w.symm
        subst w
        rcases hyes with ⟨rfl, hl⟩ | ⟨rfl, hl⟩
        · have hlk : lkd y' (idS τ i) x = true := L.symm.trans hl
          refine stp_j hJ 1 ⟨fun z => absurd z (by decide), fun _ => ?_⟩
          refine stp_j hJ 4 ⟨trivial, ⟨i0, trivial⟩, _, c_dropLink f qy.1.1 esp hi (x := x) (by rw [hA]; exact hx1), ?_⟩
          rintro o υ ⟨rfl, f2, d2, did⟩
          have qc := qy.cut hlk
          have eidi : idS υ i = idS τ i := by rw [did]
          have f3 : RCw υ (yCut y' (idS τ i) x) (al.erase e) (sp ++ [e]) rd' en' ts' (fun j z => if j = e then lkd (yCut y' (idS τ i) x) z x else false) := f2.gc (fun k hk j hj hn => by
            show (if j = e ∧ idS υ k = idS τ i then false else if j = e then lkd y' (idS υ k) x else false) = if j = e then lkd (yCut y' (idS τ i) x) (idS υ k) x else false
            by_cases ej : j = e
            · rw [if_pos ej, if_pos ej]
              by_cases ez : idS υ k = idS τ i
              · rw [if_pos ⟨ej, ez⟩, ez]
                exact (lkd_cut ku _ _).symm
              · rw [if_neg (fun z => ez z.2)]
                have hkx : ¬ idS υ k = x := fun z => hx1 (by rw [← hA, ← z, did]; exact f.mA hk)
                exact (lkd_cut_o ez hkx).symm
            · rw [if_neg (fun z => ej z.1), if_neg ej, if_neg ej])
          have dd2 := dd.tr d2
          have dx2 : υ.1 5 e 4 = x := (dd2 e esp 4 (by decide)).trans hx.symm
          have dr2 : υ.1 5 e 13 = r := (dd2 e esp 13 (by decide)).trans hr.symm
          refine stp_j hJ 7 ⟨i5 e8, _, dx2, i5 e8, _, dr2, trivial, ⟨i0, trivial⟩, _, c_exitReaches f3 qc.1 qc.2.1 qc.2.2.1 qc.2.2.2.1 hi x r, ?_⟩
          rintro o ω ⟨rfl, ⟨rd'', en'', ts'', f4⟩, d4⟩
          rw [eidi] at f4
          have eK : yK (yExit (yCut y' (idS τ i) x) (idS τ i) x r) = (yK y').eraseP (isK (idS τ i) x) := by
            rw [yK_exit]
            rfl
          have el : ∀ z, lkd (yExit (yCut y' (idS τ i) x) (idS τ i) x r) z x = lkd (yCut y' (idS τ i) x) z x := fun z => by
            unfold lkd
            rw [yK_exit]
          refine stp_j hJ 2 ⟨_, nI_1 n, ?_⟩
          refine j_pre hJ (lv := [(0, mR 0 0), (1, mR 5 e), (2, mI (nI (n + 1)))]) (ext := [(3, mR 5 i)]) ?_
          refine ih (n + 1) ω _ rd'' en'' ts'' (by omega) hdr (f4.gc (fun k hk j hj hn => by
            show (if j = e then lkd (yCut y' (idS τ i) x) (idS ω k) x else false) = if j = e then lkd (yExit (yCut y' (idS τ i) x) (idS τ i) x r) (idS ω k) x else false
            rw [el])) (qc.exit (f.mA hi) x r) ?_ ?_ ?_ (dd2.tr d4) ?_ ?_ ?_ ?_ ?_
          · unfold KU
            rw [eK]
            exact ku.sublist List.eraseP_sublist
          · intro p hp
            rw [eK] at hp
            exact ks p (List.mem_of_mem_eraseP hp)
          · rw [yA_exit]
            exact hA
          · intro z hz
            rw [el]
            rw [tk] at hz
            cases hb2 : lkd (yCut y' (idS τ i) x) z x with
            | false => rfl
            | true =>
              rcases List.mem_append.mp hz with hz | hz
              · have := hno z hz
                rw [lkd_sub hb2] at this
                exact this
              · rw [List.mem_singleton.mp hz, lkd_cut ku] at hb2
                exact hb2.symm
          · intro m hm z
            rw [yF_exit _ _ _ _ hm]
            exact hF m hm z
          · rw [yL_exit]
            exact hLy
          · rw [yN_exit]
            exact hNy
          · rw [← hy]
            show _ = yExits x r _ (if lkd y' (idS τ i) x = true then _ else _)
            rw [if_pos hlk]
            rfl
        · have hlk : ¬ lkd y' (idS τ i) x = true := fun z => hl (L.trans z)
          refine stp_j hJ 1 ⟨fun _ => ?_, fun z => absurd rfl z⟩
          refine stp_j hJ 2 ⟨_, nI_1 n, ?_⟩
          refine j_pre hJ (lv := [(0, mR 0 0), (1, mR 5 e), (2, mI (nI (n + 1)))]) (ext := [(3, mR 5 i)]) ?_
          refine ih (n + 1) τ y' rd' en' ts' (by omega) hdr f qy ku ks hA dd ?_ hF hLy hNy ?_
          · intro z hz
            rw [tk] at hz
            rcases List.mem_append.mp hz with hz | hz
            · exact hno z hz
            · rw [List.mem_singleton.mp hz]
              exact Bool.eq_false_iff.mpr hlk
          · rw [← hy]
            show _ = yExits x r _ (if lkd y' (idS τ i) x = true then _ else _)
            rw [if_neg hlk]
  refine stp_j hJ 2 ?_
  refine loop1 (al.erase e) 0 τ0 y1 _ _ _ (by decide) rfl (f0.gc (fun k hk j hj hn => ?_)) q1 (by rw [hy1]; exact qu) (by rw [hy1]; exact fun p hp => hp) rfl (fun k _ f _ => by rw [k5]) (by simp) (by rw [hy1]; exact fun n _ z => rfl) (by rw [hy1]; rfl) (by rw [hy1]; rfl) rfl
  show (if j = e then lkd y (idS τ0 k) x else false) = if j = e then lkd y1 (idS τ0 k) x else false
  rw [hy1]
  rfl
end SETTLE
