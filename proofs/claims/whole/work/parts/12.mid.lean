/-! Mailing, endings: the class's private methods over a yard -/
def Dead (sp : List Nat) (σ τ : mS) : Prop := ∀ k ∈ sp, ∀ f, ¬ f = 14 → τ.1 5 k f = σ.1 5 k f
theorem Dead.tr {sp : List Nat} {σ τ υ : mS} (h1 : Dead sp σ τ) (h2 : Dead sp τ υ) : Dead sp σ υ := fun k hk f hf => (h2 k hk f hf).trans (h1 k hk f hf)
theorem Dead.ch {sp : List Nat} {σ τ : mS} {P : Nat → Nat → Prop} (c : Ch P σ τ) (h : ∀ i, ¬ P 5 i) : Dead sp σ τ := fun k _ f _ => by rw [(c 5 k (h k)).1]
section MID
variable {σ : mS} {y : Yd} {al sp rd en : List Nat} {ts : List mT} {g : Nat → Int32 → Bool}
theorem RCw.apart (h : RCw σ y al sp rd en ts g) {i k : Nat} (hi : i ∈ al) (hk : k ∈ sp) : ¬ k = i := fun e => (List.nodup_append.mp h.2.1.1).2.2 i hi k hk e.symm
theorem RCw.dead5 (h : RCw σ y al sp rd en ts g) {i f : Nat} {v : Int32} (hi : i ∈ al) : Dead sp σ (sI σ 5 i f v) := fun k hk _ _ => u3_other (h.apart hi hk)
theorem c_makeReady (h : RCw σ y al sp rd en ts g) (q : Srt y) (qn : (yQ y).Nodup) {i : Nat} (hi : i ∈ al) (hn : ¬ i ∈ rd) : Meets clC yX6_makeReady (kX6_makeReady :: wT) rX6_makeReady [mR 0 0, mR 5 i] σ (fun r τ => r = none ∧ RCw τ (yReady y (idS σ i)) al sp (rd ++ [i]) en ts g ∧ Dead sp σ τ) := by
  refine Meets.of SX6_makeReady rfl (by decide) rfl (Nat.le_of_ble_eq_true rfl) ?_
  intro J hJ
  have h8 := h.lt8 hi
  have h1 := h.waits q hi false
  have h2 := h1.done q hi 0
  refine stp_j hJ 10 ⟨i5 h8, Or.inl rfl, i5 h8, i0, trivial, ⟨i3 (by decide), trivial⟩, _, c_Line_add (i3 (by decide)) (i4 (by decide)) h2.1.2.2.1 (i5 h8) h8 (h.rd7 qn hi hn), ?_⟩
  rintro r τ ⟨rfl, c, hl⟩
  refine stp_j hJ 1 ⟨rfl, ?_, ?_⟩
  · have h3 := h2.queue c hl (fun k hk => by
      rcases List.mem_append.mp hk with hk | hk
      · exact h.2.1.2.2.1 k hk
      · rw [List.mem_singleton.mp hk]
        exact hi)
    have e : (rd ++ [i]).map (idS (sI (sI σ 5 i 10 (bI false)) 5 i 11 0)) = yQ y ++ [idS σ i] := by
      rw [← h.2.2.1.2.1, List.map_append]
      rfl
    rw [e] at h3
    exact h3
  · exact ((h.dead5 hi).tr (h1.dead5 hi)).tr (Dead.ch c (by omega))
theorem any_map {α β : Type} (f : α → β) (p : β → Bool) (l : List α) : (l.map f).any p = l.any (fun a => p (f a)) := by
  rw [List.any_map]
  rfl
theorem RCw.inE (h : RCw σ y al sp rd en ts g) (q : Srt y) {i : Nat} (hi : i ∈ al) : (yE y).any (fun e => e.1 == idS σ i) = true ↔ i ∈ en := by
  rw [← h.2.2.1.2.2, any_map, List.any_eq_true]
  constructor
  · rintro ⟨k, hk, e⟩
    rw [← h.inj q (h.2.1.2.2.2 k hk) hi (eq_of_beq e)]
    exact hk
  · exact fun z => ⟨i, z, by simp⟩
def InvE (y : Yd) : Prop := ((yE y).map (fun e => e.1)).Nodup
theorem RCw.ndE (h : RCw σ y al sp rd en ts g) (q : InvE y) : en.Nodup := by
  unfold InvE at q
  rw [← h.2.2.1.2.2, List.map_map] at q
  exact List.Pairwise.of_map _ (fun _ _ z e => z (by rw [e])) q
theorem c_comeToEnd (h : RCw σ y al sp rd en ts g) (q : Srt y) (qe : InvE y) {i : Nat} (hi : i ∈ al) (r : Int32) : Meets clC yX6_comeToEnd (kX6_comeToEnd :: wT) rX6_comeToEnd [mR 0 0, mR 5 i, mI r] σ (fun o τ => o = none ∧ (∃ en', RCw τ (yEnd y (idS σ i) r) al sp rd en' ts g) ∧ Dead sp σ τ) := by
  refine Meets.of SX6_comeToEnd rfl (by decide) rfl (Nat.le_of_ble_eq_true rfl) ?_
  intro J hJ
  have h8 := h.lt8 hi
  refine stp_j hJ 4 ⟨i0, trivial, ⟨i3 (by decide), trivial⟩, _, c_Line_contains (by decide) h.1.2.2.2 h8, ?_⟩
  rintro o τ ⟨rfl, rfl⟩
  by_cases hm : i ∈ en
  · rw [if_pos hm]
    refine stp_j hJ 1 ⟨fun _ => ?_, fun z => absurd (by decide) z⟩
    refine stp_j hJ 1 ⟨rfl, ⟨en, ?_⟩, fun _ _ _ _ => rfl⟩
    rw [yEnd, if_pos ((h.inE q hi).mpr hm)]
    exact h
  · rw [if_neg hm]
    refine stp_j hJ 1 ⟨fun z => absurd rfl z, fun _ => ?_⟩
    have h1 := h.reason hm r
    have hl : en.length < 8 := by
      have h2 : (i :: en).length ≤ al.length := nd_sub_len (List.nodup_cons.mpr ⟨hm, h.ndE qe⟩) (fun k hk => by
        rcases List.mem_cons.mp hk with rfl | hk
        · exact hi
        · exact h.2.1.2.2.2 k hk)
      have := h.1.1.2.1
      simp at h2
      omega
    refine stp_j hJ 7 ⟨i5 h8, i0, trivial, ⟨i3 (by decide), trivial⟩, _, c_Line_add (i3 (by decide)) (i4 (by decide)) h1.1.2.2.2 (i5 h8) h8 hl, ?_⟩
    rintro o υ ⟨rfl, c, hln⟩
    refine stp_j hJ 1 ⟨rfl, ⟨en ++ [i], ?_⟩, (h.dead5 hi).tr (Dead.ch c (by omega))⟩
    have h3 := h1.ends c hln (fun k hk => by
      rcases List.mem_append.mp hk with hk | hk
      · exact h.2.1.2.2.2 k hk
      · rw [List.mem_singleton.mp hk]
        exact hi)
    rw [yEnd, if_neg (fun z => hm ((h.inE q hi).mp z))]
    rw [List.map_append] at h3
    have e1 := h1.2.2.1.2.2
    rw [e1] at h3
    have e2 : ([i].map (fun k => (idS (sI τ 5 i 13 r) k, (sI τ 5 i 13 r).1 5 k 13))) = [(idS τ i, r)] := by
      show [(idS τ i, u3 τ.1 5 i 13 r 5 i 13)] = _
      rw [u3_s]
    rw [e2] at h3
    exact h3
theorem rm_first {α : Type} (p : α → Bool) : ∀ (l : List α), (l.filter p).length ≤ 1 → (match l.findIdx? p with | none => l | some n => l.eraseIdx n) = l.filter (fun a => !p a)
  | [], _ => rfl
  | a :: l, h => by
    rw [List.findIdx?_cons]
    by_cases hp : p a = true
    · rw [List.filter_cons_of_pos hp] at h
      have h0 : l.filter p = [] := by
        cases hq : l.filter p with
        | nil => rfl
        | cons b m => rw [hq] at h; simp at h
      have h1 : ∀ b ∈ l, ¬ p b = true := fun b hb hc => by
        have : b ∈ l.filter p := List.mem_filter.mpr ⟨hb, hc⟩
        rw [h0] at this
        simp at this
      rw [if_pos hp, List.filter_cons_of_neg (by simp [hp])]
      show l = _
      rw [List.filter_eq_self.mpr (fun b hb => by simp [h1 b hb])]
    · rw [List.filter_cons_of_neg hp] at h
      have ih := rm_first p l h
      rw [if_neg hp, List.filter_cons_of_pos (by simp [hp]), ← ih]
      cases l.findIdx? p <;> rfl
theorem tm_drop {ts : List mT} {x : Int32} (h : ((ts.map cT).filter (fun t => t.1 == x && t.2.2.2)).length ≤ 1) : (if idI (ts.findIdx? (fun t => t.1 == x && t.2.2.2)) < 0 then ts else ts.eraseIdx (idI (ts.findIdx? (fun t => t.1 == x && t.2.2.2))).toNatClampNeg).map cT = (ts.map cT).filter (fun t => !(t.1 == x && t.2.2.2)) ∨ ¬ ts.length < 2 ^ 31 := by
  by_cases hL : ts.length < 2 ^ 31
  · refine Or.inl ?_
    have h1 : (ts.filter (fun t => t.1 == x && t.2.2.2)).length ≤ 1 := by
      rw [List.filter_map, List.length_map] at h
      exact h
    have h2 := rm_first _ ts h1
    rw [List.filter_map]
    have e : (ts.filter ((fun t : Int32 × Int × Int32 × Bool => !(t.1 == x && t.2.2.2)) ∘ cT)) = ts.filter (fun t => !(t.1 == x && t.2.2.2)) := rfl
    rw [e, ← h2]
    cases hf : ts.findIdx? (fun t => t.1 == x && t.2.2.2) with
    | none => rfl
    | some n =>
      have hn : n < ts.length := by
        have := List.findIdx?_eq_some_iff_getElem.mp hf
        exact this.1
      show (if nI n < 0 then ts else ts.eraseIdx (nI n).toNatClampNeg).map cT = _
      rw [if_neg (nI_pos (by omega)), nI_clamp (by omega)]
  · exact Or.inr hL
theorem mbx_add (y : Yd) (i s v x : Int32) (n : Nat) : mbx (vM (vR y n) (yM y ++ [(i, s, v)])) x = if x = i then mbx y x ++ [(i, s, v)] else mbx y x := by
  show (yM y ++ [(i, s, v)]).filter (fun m => m.1 == x) = _
  rw [List.filter_append]
  by_cases e : x = i
  · subst e
    rw [if_pos rfl]
    simp [mbx]
  · rw [if_neg e]
    have : ¬ i = x := fun z => e z.symm
    simp [mbx, this]
theorem c_deliver (h : RCw σ y al sp rd en ts g) (q : InvQ y) (qt : InvT y) (qr : InvR y) {i : Nat} (hi : i ∈ al) (s v : Int32) : Meets clC yX6_deliver (kX6_deliver :: wT) rX6_deliver [mR 0 0, mR 5 i, mI s, mI v] σ (fun r τ => r = none ∧ (∃ rd' ts', RCw τ (yDel y (idS σ i) s v) al sp rd' en ts' g) ∧ Dead sp σ τ) := by
  refine Meets.of SX6_deliver rfl (by decide) rfl (Nat.le_of_ble_eq_true rfl) ?_
  intro J hJ
  have h8 := h.lt8 hi
  unfold InvR at qr
  have hsc := h.2.2.2.2.2.2.2.2.1
  refine stp_j hJ 4 ⟨i0, _, hsc.2.1, fun h1 => ?_, fun h1 => ?_⟩
  · have hR : 1 ≤ yR y := (nI_leI (a := 1) (by decide) (by omega)).mp h1
    obtain ⟨R, eR⟩ : ∃ R, yR y = R + 1 := ⟨yR y - 1, by omega⟩
    have hne : ¬ yR y = 0 := by omega
    have hpred : yR y - 1 = R := by omega
    have f1 := h.free R
    have hlen : ((mbx y (idS σ i)).map vS).length < 24 := by
      rw [List.length_map]
      have := List.length_filter_le (fun m : Int32 × Int32 × Int32 => m.1 == idS σ i) (yM y)
      unfold mbx
      omega
    refine stp_j hJ 6 ⟨i0, _, hsc.2.1.trans (by rw [eR]), _, nI_pred R, i0, ?_⟩
    refine stp_j hJ 5 ⟨i5 h8, trivial, ⟨i8 h8, trivial⟩, _, c_Mb_add h8 (f1.2.2.2.1 i hi).2.2 hlen v s, ?_⟩
    rintro o τ ⟨rfl, c, hm⟩
    have f2 : RCw τ (vM (vR y (yR y - 1)) (yM y ++ [(idS σ i, s, v)])) al sp rd en ts g := by
      rw [hpred]
      refine f1.mail (M := yM y ++ [(idS σ i, s, v)]) q.1 hi c ?_ ?_ ?_
      · rw [show mbx (vM (vR y R) (yM y ++ [(idS σ i, s, v)])) (idS (sI σ 0 0 8 (nI R)) i) = _ from mbx_add y (idS σ i) s v (idS σ i) R, if_pos rfl, List.map_append]
        exact hm
      · intro x hx
        exact (mbx_add y (idS σ i) s v x R).trans (if_neg hx)
      · exact fun k hk => h.apart hi hk
    have hw := (f2.2.2.2.1 i hi).1.2.2.2.2.2.2.2.1
    have eid : idS τ i = idS σ i := by unfold idS; rw [(c 5 i (by omega)).1]; rfl
    have ew : τ.1 5 i 10 = bI (yB y 1 (idS σ i)) := by
      rw [hw, eid]
      rfl
    have d2 : Dead sp σ τ := Dead.ch (σ := sI σ 0 0 8 (nI R)) c (by omega)
    refine stp_j hJ 3 ⟨i5 h8, _, ew, fun h2 => ?_, fun h2 => ?_⟩
    · have hb : ¬ yB y 1 (idS σ i) = true := fun z => by rw [z] at h2; exact absurd h2 (by decide)
      refine stp_j hJ 1 ⟨rfl, ⟨rd, ts, ?_⟩, d2⟩
      rw [yDel, if_neg hne, if_neg hb]
      exact f2
    · have hb : yB y 1 (idS σ i) = true := by
        cases hb : yB y 1 (idS σ i) with
        | true => rfl
        | false => rw [hb] at h2; exact absurd rfl h2
      have hnr : ¬ i ∈ rd := fun z => (q.2.2.2 _ (h.mA hi)).mp hb ((h.mQ q.1 hi).mpr z)
      refine stp_j hJ 7 ⟨i0, i0, i5 h8, _, eid, trivial, ⟨i11, trivial⟩, _, c_Tm_limitOf f2.2.2.2.2.2.1.1 (idS σ i), ?_⟩
      rintro o υ ⟨rfl, rfl⟩
      refine stp_j hJ 1 ⟨trivial, ⟨i11, trivial⟩, _, c_Tm_removeAt f2.2.2.2.2.2.1.1 _, ?_⟩
      rintro o υ ⟨rfl, c2, ht⟩
      have f3 := f2.timers c2 ht
      have hdrop := tm_drop (x := idS σ i) (ts := ts) (by rw [h.2.2.2.2.2.1.2]; exact qt _)
      have hts10 := h.2.2.2.2.2.1.1.2.1
      rw [hdrop.resolve_right (by omega), f2.2.2.2.2.2.1.2] at f3
      have eid2 : idS υ i = idS σ i := by unfold idS at *; rw [(c2 5 i (by omega)).1]; exact eid
      refine stp_j hJ 3 ⟨trivial, ⟨i0, trivial⟩, _, c_makeReady f3 q.1 q.2.1 hi hnr, ?_⟩
      rintro o ω ⟨rfl, f4, d4⟩
      have f5 : ∃ rd' ts', RCw ω (yDel y (idS σ i) s v) al sp rd' en ts' g := by
        rw [yDel, if_neg hne, if_pos hb]
        rw [eid2] at f4
        exact ⟨_, _, f4⟩
      exact stp_j hJ 1 ⟨rfl, f5, (d2.tr (Dead.ch c2 (by omega))).tr d4⟩
  · have hR : yR y = 0 := by
      have : ¬ 1 ≤ yR y := fun z => h1 ((nI_leI (a := 1) (by decide) (by omega)).mpr z)
      omega
    refine stp_j hJ 7 ⟨i0, _, hsc.2.2.1, _, rfl, i0, rfl, ⟨rd, ts, ?_⟩, fun _ _ _ _ => rfl⟩
    rw [yDel, if_pos hR]
    exact h.lost _
theorem c_exitReaches (h : RCw σ y al sp rd en ts g) (q : InvQ y) (qt : InvT y) (qr : InvR y) (qe : InvE y) {i : Nat} (hi : i ∈ al) (s r : Int32) : Meets clC yX6_exitReaches (kX6_exitReaches :: wT) rX6_exitReaches [mR 0 0, mR 5 i, mI s, mI r] σ (fun o τ => o = none ∧ (∃ rd' en' ts', RCw τ (yExit y (idS σ i) s r) al sp rd' en' ts' g) ∧ Dead sp σ τ) := by
  refine Meets.of SX6_exitReaches rfl (by decide) rfl (Nat.le_of_ble_eq_true rfl) ?_
  intro J hJ
  have h8 := h.lt8 hi
  have ht := (h.2.2.2.1 i hi).1.2.2.2.2.2.2.1
  refine stp_j hJ 3 ⟨i5 h8, _, ht, fun h1 => ?_, fun h1 => ?_⟩
  · have hb : ¬ yB y 0 (idS σ i) = true := fun z => by rw [z] at h1; exact absurd h1 (by decide)
    refine stp_j hJ 2 ⟨fun h2 => ?_, fun h2 => ?_⟩
    · refine stp_j hJ 1 ⟨rfl, ⟨rd, en, ts, ?_⟩, fun _ _ _ _ => rfl⟩
      rw [yExit, if_neg hb, if_pos h2]
      exact h
    · refine stp_j hJ 4 ⟨trivial, ⟨i0, trivial⟩, _, c_comeToEnd h q.1 qe hi r, ?_⟩
      rintro o τ ⟨rfl, ⟨en', f⟩, d⟩
      refine stp_j hJ 1 ⟨rfl, ⟨rd, en', ts, ?_⟩, d⟩
      rw [yExit, if_neg hb, if_neg h2]
      exact f
  · have hb : yB y 0 (idS σ i) = true := by
      cases hb : yB y 0 (idS σ i) with
      | true => rfl
      | false => rw [hb] at h1; exact absurd rfl h1
    refine stp_j hJ 5 ⟨trivial, ⟨i0, trivial⟩, _, c_deliver h q qt qr hi s r, ?_⟩
    rintro o τ ⟨rfl, ⟨rd', ts', f⟩, d⟩
    refine stp_j hJ 2 ⟨rfl, ⟨rd', en, ts', ?_⟩, d⟩
    rw [yExit, if_pos hb]
    exact f
theorem c_sendTo (h : RCw σ y al sp rd en ts g) (q : InvQ y) (qt : InvT y) (qr : InvR y) (v s w : Int32) : Meets clC yX6_sendTo (kX6_sendTo :: wT) rX6_sendTo [mR 0 0, mI v, mI s, mI w] σ (fun o τ => o = none ∧ (∃ rd' ts', RCw τ (if v ∈ yA y then yDel y v s w else y) al sp rd' en ts' g) ∧ Dead sp σ τ) := by
  refine Meets.of SX6_sendTo rfl (by decide) rfl (Nat.le_of_ble_eq_true rfl) ?_
  intro J hJ
  refine stp_j hJ 4 ⟨i0, trivial, ⟨i3 (by decide), trivial⟩, _, c_Line_find (by decide) h.1.1 v, ?_⟩
  rintro o τ ⟨rfl, rfl⟩
  rcases h.find v with ⟨i, hf, hi, e, hv⟩ | ⟨hf, hv⟩
  · rw [hf]
    have h8 := h.lt8 hi
    refine stp_j hJ 3 ?_
    refine stp_j hJ 5 ⟨trivial, ⟨i0, trivial⟩, _, c_deliver h q qt qr hi s w, ?_⟩
    rintro o τ ⟨rfl, f, d⟩
    refine stp_j hJ 1 ⟨rfl, ?_, d⟩
    rw [if_pos hv, ← e]
    exact f
  · rw [hf]
    refine stp_j hJ 4 ⟨rfl, ⟨rd, ts, ?_⟩, fun _ _ _ _ => rfl⟩
    rw [if_neg hv]
    exact h
end MID
