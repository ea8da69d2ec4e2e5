/-! Beginnings and ends -/
abbrev RC0 : Nat → Int32 → Bool := fun _ _ => false
section LIFE
variable {σ : mS} {y : Yd} {al sp rd en : List Nat} {ts : List mT} {g : Nat → Int32 → Bool}
/-- a step that leaves the actors that stay alone, but for mailboxes -/
theorem RCw.gen2 (h : RCw σ y al sp rd en ts g) {τ : mS} {y' : Yd} {al' sp' rd' en' : List Nat} {ts' : List mT} {g' : Nat → Int32 → Bool}
    (e5 : ∀ i, τ.1 5 i = σ.1 5 i) (e6 : ∀ i, τ.1 6 i = σ.1 6 i) (e7 : ∀ i, τ.2.1 7 i = σ.2.1 7 i) (e2 : ∀ i, τ.1 2 i = σ.1 2 i) (hsub : ∀ i ∈ al', i ∈ al)
    (eF : yF y' = yF y) (eB : yB y' = yB y) (eH : yH y' = yH y) (eC : yC y' = yC y)
    (l : LnIs τ 0 al' ∧ LnIs τ 1 sp' ∧ LnIs τ 2 rd' ∧ LnIs τ 3 en') (n : (al' ++ sp').Nodup ∧ (al' ++ sp').length = 8 ∧ (∀ i ∈ rd', i ∈ al') ∧ ∀ i ∈ en', i ∈ al')
    (m : al'.map (idS σ) = yA y' ∧ rd'.map (idS σ) = yQ y' ∧ en'.map (fun i => (idS σ i, σ.1 5 i 13)) = yE y')
    (mb : ∀ i ∈ al', MbIs τ i ((mbx y' (idS σ i)).map vS)) (lk : LkI σ y' al' g') (tm : TmIs τ ts' ∧ ts'.map cT = yT y') (ou : OutIs τ (yO y')) (sc : ScI τ y') (sm : ∀ i ∈ sp', MbIs τ i []) : RCw τ y' al' sp' rd' en' ts' g' := by
  have eid : idS τ = idS σ := by funext i; unfold idS; rw [e5]
  refine ⟨l, n, ⟨by rw [eid]; exact m.1, by rw [eid]; exact m.2.1, ?_⟩, fun i hi => ?_, ?_, tm, ou, fun k hk a ha => ?_, sc, fun i hi => ?_, sm⟩
  · rw [eid]
    simp only [e5]
    exact m.2.2
  · obtain ⟨f, hh, b⟩ := h.2.2.2.1 i (hsub i hi)
    unfold AcF AcH AcM at *
    rw [eid, e5, e6, e7, eF, eB, eH]
    exact ⟨f, hh, mb i hi⟩
  · unfold LkI at *
    rw [eid]
    simp only [e5]
    exact lk
  · rw [e2, eC]
    exact h.2.2.2.2.2.2.2.1 k hk a ha
  · rw [e5]
    exact h.2.2.2.2.2.2.2.2.2.1 i hi
theorem RCw.ndS (h : RCw σ y al sp rd en ts g) : sp.Nodup := (List.nodup_append.mp h.2.1.1).2.1
theorem nd_erase {l : List Nat} (h : l.Nodup) {i : Nat} : ¬ i ∈ l.erase i := fun z => ((h.mem_erase_iff).mp z).1 rfl
theorem RCw.cells3 (h : RCw σ y al sp rd en ts g) : al.length + sp.length = 8 := by
  have := h.2.1.2.1
  rw [List.length_append] at this
  exact this
theorem c_bury (h : RCw σ y al sp rd en ts RC0) (q : InvQ y) (qr : InvR y) {e : Nat} {en0 : List Nat} (hen : en = e :: en0) (hnd : en.Nodup) : Meets clC yX6_bury (kX6_bury :: wT) rX6_bury [mR 0 0, mR 5 e] σ (fun o τ => o = none ∧ (∃ ts', RCw τ (yBury y (idS σ e)) (al.erase e) (sp ++ [e]) (rd.erase e) en0 ts' (fun j z => if j = e then lkd y z (idS σ e) else false)) ∧ ∀ k, τ.1 5 k = σ.1 5 k) := by
  refine Meets.of SX6_bury rfl (by decide) rfl (Nat.le_of_ble_eq_true rfl) ?_
  intro J hJ
  have he : e ∈ al := h.2.1.2.2.2 e (by rw [hen]; exact List.mem_cons_self)
  have e8 := h.lt8 he
  have hnA := h.ndA
  have hee : en.erase e = en0 := by rw [hen, List.erase_cons_head]
  refine stp_j hJ 4 ⟨i0, trivial, ⟨i3 (by decide), trivial⟩, _, c_Line_remove (by decide) h.1.2.2.2 e8, ?_⟩
  rintro o τ1 ⟨rfl, c1, l3⟩
  refine stp_j hJ 4 ⟨i0, trivial, ⟨i3 (by decide), trivial⟩, _, c_Line_remove (by decide) (h.1.1.ch c1 (by omega) (by omega)) e8, ?_⟩
  rintro o τ2 ⟨rfl, c2, l0⟩
  have l2 := (h.1.2.2.1.ch c1 (by omega) (by omega)).ch c2 (by omega) (by omega)
  refine stp_j hJ 4 ⟨i0, trivial, ⟨i3 (by decide), trivial⟩, _, c_Line_remove (by decide) l2 e8, ?_⟩
  rintro o τ3 ⟨rfl, c3, l2⟩
  have l1 := ((h.1.2.1.ch c1 (by omega) (by omega)).ch c2 (by omega) (by omega)).ch c3 (by omega) (by omega)
  have hlen := h.cells3
  have hpos : 0 < al.length := List.length_pos_of_mem he
  refine stp_j hJ 4 ⟨i0, trivial, ⟨i3 (by decide), trivial⟩, _, c_Line_add (i3 (by decide)) (i4 (by decide)) l1 (i5 e8) e8 (by omega), ?_⟩
  rintro o τ4 ⟨rfl, c4, l1⟩
  have tm := (((h.2.2.2.2.2.1.1.ch c1 (by omega) (by omega) (by omega) (by omega) (by omega)).ch c2 (by omega) (by omega) (by omega) (by omega) (by omega)).ch c3 (by omega) (by omega) (by omega) (by omega) (by omega)).ch c4 (by omega) (by omega) (by omega) (by omega) (by omega)
  have e5a : ∀ k, τ4.1 5 k = σ.1 5 k := fun k => by rw [(c4 5 k (by omega)).1, (c3 5 k (by omega)).1, (c2 5 k (by omega)).1, (c1 5 k (by omega)).1]
  have eid : τ4.1 5 e 4 = idS σ e := by rw [e5a]; rfl
  refine stp_j hJ 5 ⟨i0, i5 e8, _, eid, trivial, ⟨i11, trivial⟩, _, c_Tm_removeAllOf tm (idS σ e), ?_⟩
  rintro o τ5 ⟨rfl, c5, tm⟩
  have all : Ch (fun k i => k = 3 ∨ k = 4 ∨ k = 11 ∨ k = 12 ∨ k = 13 ∨ k = 14) σ τ5 :=
    ((((c1.tr c2 (S := fun k i => k = 3 ∨ k = 4 ∨ k = 11 ∨ k = 12 ∨ k = 13 ∨ k = 14) (fun _ _ _ => by omega) (fun _ _ _ => by omega)).tr c3 (S := fun k i => k = 3 ∨ k = 4 ∨ k = 11 ∨ k = 12 ∨ k = 13 ∨ k = 14) (fun _ _ z => z) (fun _ _ _ => by omega)).tr c4 (S := fun k i => k = 3 ∨ k = 4 ∨ k = 11 ∨ k = 12 ∨ k = 13 ∨ k = 14) (fun _ _ z => z) (fun _ _ _ => by omega)).tr c5 (fun _ _ z => z) (fun _ _ _ => by omega))
  have hMb := (h.2.2.2.1 e he).2.2
  obtain ⟨hd, a1, a2, a3, a4, a5⟩ := id hMb
  rw [List.length_map] at a3
  have sc0 : τ5.1 0 0 8 = nI (yR y) := by rw [(all 0 0 (by omega)).1]; exact h.2.2.2.2.2.2.2.2.1.2.1
  have mz : τ5.1 8 e 3 = nI (mbx y (idS σ e)).length := by rw [(all 8 e (by omega)).1]; exact a3
  refine stp_j hJ 8 ⟨i0, _, sc0, i5 e8, i8 e8, _, mz, _, nI_add _ _, i0, ?_⟩
  refine stp_j hJ 3 ⟨i5 e8, trivial, ⟨i8 e8, trivial⟩, _, c_Mb_clear e8, ?_⟩
  rintro o τ6 ⟨rfl, c6, m6⟩
  have k6 : ∀ k i, ¬ k = 0 → ¬ (k = 3 ∨ k = 4 ∨ k = 11 ∨ k = 12 ∨ k = 13 ∨ k = 14) → ¬ ((k = 8 ∨ k = 9 ∨ k = 10) ∧ i = e) → τ6.1 k i = σ.1 k i ∧ τ6.2.1 k i = σ.2.1 k i := by
    intro k i n0 n1 n2
    obtain ⟨b1, b2, -⟩ := c6 k i n2
    obtain ⟨d1, d2, -⟩ := all k i n1
    refine ⟨b1.trans ?_, b2.trans d2⟩
    exact (u3_r τ5.1 _ (fun z => n0 z.1)).trans d1
  have lines : ∀ {j : Nat} {xs : List Nat}, LnIs τ5 j xs → LnIs τ6 j xs := fun l => LnIs.ch (σ := sI τ5 0 0 8 _) l c6 (by omega) (by omega)
  have keepMb : ∀ k ms, ¬ k = e → MbIs σ k ms → MbIs τ6 k ms := fun k ms hk hm => by
    have hm5 : MbIs τ5 k ms := hm.ch all (by omega) (by omega) (by omega)
    exact MbIs.ch (σ := sI τ5 0 0 8 _) hm5 c6 (fun z => hk z.2) (fun z => hk z.2) (fun z => hk z.2)
  refine stp_j hJ 1 ⟨rfl, ⟨ts.filter (fun t => !(t.1 == idS σ e)), ?_⟩, fun k => (k6 5 k (by decide) (by omega) (by omega)).1⟩
  have hinj : ∀ k ∈ al, idS σ k = idS σ e → k = e := fun k hk z => h.inj q.1 hk he z
  refine h.gen2 (fun k => (k6 5 k (by decide) (by omega) (by omega)).1) (fun k => (k6 6 k (by decide) (by omega) (by omega)).1) (fun k => (k6 7 k (by decide) (by omega) (by omega)).2) (fun k => (k6 2 k (by decide) (by omega) (by omega)).1) (fun k hk => List.mem_of_mem_erase hk) rfl rfl rfl rfl ?_ ?_ ?_ ?_ ?_ ?_ ?_ ?_ ?_
  · refine ⟨lines (((l0.ch c3 (by omega) (by omega)).ch c4 (by omega) (by omega)).ch c5 (by omega) (by omega)), lines (l1.ch c5 (by omega) (by omega)), lines ((l2.ch c4 (by omega) (by omega)).ch c5 (by omega) (by omega)), ?_⟩
    rw [hee] at l3
    exact lines ((((l3.ch c2 (by omega) (by omega)).ch c3 (by omega) (by omega)).ch c4 (by omega) (by omega)).ch c5 (by omega) (by omega))
  · refine ⟨?_, ?_, ?_, ?_⟩
    · rw [List.nodup_append]
      refine ⟨hnA.erase e, ?_, ?_⟩
      · rw [List.nodup_append]
        exact ⟨h.ndS, by simp, fun a ha b hb => by rw [List.mem_singleton.mp hb]; exact fun z => h.apart he ha z⟩
      · intro a ha b hb z
        subst z
        rcases List.mem_append.mp hb with hb | hb
        · exact h.apart (List.mem_of_mem_erase ha) hb rfl
        · rw [List.mem_singleton.mp hb] at ha
          exact nd_erase hnA ha
    · rw [List.length_append, List.length_append, List.length_erase_of_mem he]
      simp
      omega
    · intro k hk
      have hk2 := (h.ndR q.2.1).mem_erase_iff.mp hk
      exact (hnA.mem_erase_iff).mpr ⟨hk2.1, h.2.1.2.2.1 k hk2.2⟩
    · intro k hk
      refine (hnA.mem_erase_iff).mpr ⟨fun z => ?_, h.2.1.2.2.2 k (by rw [hen]; exact List.mem_cons_of_mem _ hk)⟩
      rw [hen, List.nodup_cons] at hnd
      exact hnd.1 (by rw [← z]; exact hk)
  · refine ⟨?_, ?_, ?_⟩
    · rw [map_erase_inj hinj, h.2.2.1.1]
      rfl
    · rw [map_erase_inj (fun k hk => hinj k (h.2.1.2.2.1 k hk)), h.2.2.1.2.1]
      rfl
    · have := h.2.2.1.2.2
      rw [hen] at this
      show _ = (yE y).tail
      rw [← this]
      rfl
  · intro k hk
    have hk2 := hnA.mem_erase_iff.mp hk
    have hne : ¬ idS σ k = idS σ e := fun z => hk2.1 (hinj k hk2.2 z)
    have em : mbx (yBury y (idS σ e)) (idS σ k) = mbx y (idS σ k) := by
      show ((yM y).filter (fun m => !(m.1 == idS σ e))).filter (fun m => m.1 == idS σ k) = (yM y).filter (fun m => m.1 == idS σ k)
      rw [List.filter_filter]
      refine List.filter_congr (fun m _ => ?_)
      by_cases e1 : m.1 = idS σ k
      · simp [e1, hne]
      · simp [e1]
    rw [em]
    exact keepMb k _ hk2.1 (h.2.2.2.1 k hk2.2).2.2
  · intro k hk j hj
    have hk2 := hnA.mem_erase_iff.mp hk
    have L := h.2.2.2.2.1 k hk2.2 j hj
    refine ⟨fun hja => L.1 (List.mem_of_mem_erase hja), fun hja => ?_⟩
    by_cases ej : j = e
    · subst ej
      show _ = if j = j then lkd y (idS σ k) (idS σ j) else false
      rw [if_pos rfl]
      exact L.1 he
    · show _ = if j = e then lkd y (idS σ k) (idS σ e) else false
      rw [if_neg ej]
      exact L.2 (fun z => hja ((hnA.mem_erase_iff).mpr ⟨ej, z⟩))
  · refine ⟨TmIs.ch (σ := sI τ5 0 0 8 _) tm c6 (by omega) (by omega) (by omega) (by omega) (by omega), ?_⟩
    show (ts.filter (fun t => !(t.1 == idS σ e))).map cT = (yT y).filter (fun t => !(t.1 == idS σ e))
    rw [← h.2.2.2.2.2.1.2, List.filter_map]
    rfl
  · have o5 : OutIs τ5 (yO y) := h.2.2.2.2.2.2.1.ch all (by omega) (by omega) (by omega)
    exact OutIs.ch (σ := sI τ5 0 0 8 _) o5 c6 (by omega) (by omega) (by omega)
  · obtain ⟨b1, b2, -⟩ := c6 0 0 (by omega)
    obtain ⟨d1, d2, -⟩ := all 0 0 (by omega)
    have s0 := h.2.2.2.2.2.2.2.2.1
    refine ⟨?_, ?_, ?_, ?_⟩
    · rw [b2]
      show (τ5.2.1 0 0 7).toInt = _
      rw [d2]
      exact s0.1
    · rw [b1]
      show u3 τ5.1 0 0 8 _ 0 0 8 = _
      rw [u3_s]
      rfl
    · rw [b1]
      show τ5.1 0 0 9 = _
      rw [d1]
      exact s0.2.2.1
    · rw [b1]
      show τ5.1 0 0 10 = _
      rw [d1]
      exact s0.2.2.2
  · intro k hk
    rcases List.mem_append.mp hk with hk | hk
    · exact keepMb k _ (h.apart he hk) (h.2.2.2.2.2.2.2.2.2.2 k hk)
    · rw [List.mem_singleton.mp hk]
      exact m6
def yNew0 (y : Yd) (en ar ov : Int32) : Yd := vA (vL (vH (vB (vF y (fun n j => if j = yL y + 1 then nF en ar ov n else yF y n j)) (fun n j => if j = yL y + 1 then false else yB y n j)) (up1 (yH y) (yL y + 1) (-10, -10, -10))) (yL y + 1)) (yA y ++ [yL y + 1])
def bgI (o : Option Int32) : Int32 := match o with
  | none => -1
  | some k => k
theorem l_lt {x : Int32} (h : x.toInt < 2147483647) : x < x + 1 := by
  rw [Int32.lt_iff_toInt_lt, Int32.toInt_add]
  have h3 := Int32.le_toInt x
  have e1 : (1 : Int32).toInt = 1 := rfl
  rw [e1, Int.bmod_eq_of_le (by omega) (by omega)]
  omega
theorem lkd_no {y : Yd} {x : Int32} (hx : ¬ x ∈ yA y) (qk : ∀ p ∈ yK y, p.1 ∈ yA y ∧ p.2 ∈ yA y) (z : Int32) : lkd y x z = false ∧ lkd y z x = false := by
  constructor
  · cases hb : lkd y x z with
    | false => rfl
    | true =>
      obtain ⟨p, hp, hk⟩ := List.any_eq_true.mp hb
      rcases isK_iff.mp hk with ⟨e, -⟩ | ⟨-, e⟩
      · exact absurd (by rw [← e]; exact (qk p hp).1) hx
      · exact absurd (by rw [← e]; exact (qk p hp).2) hx
  · cases hb : lkd y z x with
    | false => rfl
    | true =>
      obtain ⟨p, hp, hk⟩ := List.any_eq_true.mp hb
      rcases isK_iff.mp hk with ⟨-, e⟩ | ⟨e, -⟩
      · exact absurd (by rw [← e]; exact (qk p hp).2) hx
      · exact absurd (by rw [← e]; exact (qk p hp).1) hx
/-- who is alive in which place: as before, or new -/
def Stab (al : List Nat) (σ : mS) (al' : List Nat) (τ : mS) (L : Int32) : Prop := ∀ k ∈ al', (k ∈ al ∧ idS τ k = idS σ k) ∨ L < idS τ k
theorem Stab.rf {al : List Nat} {σ τ : mS} {L : Int32} (h : ∀ k ∈ al, idS τ k = idS σ k) : Stab al σ al τ L := fun k hk => Or.inl ⟨hk, h k hk⟩
theorem Stab.tr {al al' al'' : List Nat} {σ τ υ : mS} {L L' : Int32} (h1 : Stab al σ al' τ L) (h2 : Stab al' τ al'' υ L') (hl : L ≤ L') : Stab al σ al'' υ L := fun k hk => by
  rcases h2 k hk with ⟨a, b⟩ | a
  · rcases h1 k a with ⟨c, d⟩ | c
    · exact Or.inl ⟨c, b.trans d⟩
    · exact Or.inr (by rw [b]; exact c)
  · exact Or.inr (Int32.lt_of_le_of_lt hl a)
theorem RCw.same {σ τ : mS} {y y' : Yd} {al sp sp' rd rd' en en' : List Nat} {ts ts' : List mT} {g g' : Nat → Int32 → Bool} (h : RCw σ y al sp rd en ts g) (h' : RCw τ y' al sp' rd' en' ts' g') (e : yA y' = yA y) : ∀ k ∈ al, idS τ k = idS σ k :=
  List.map_inj_left.mp (h'.2.2.1.1.trans (e.trans h.2.2.1.1.symm))
theorem c_beginActor (h : RCw σ y al sp rd en ts RC0) (q : InvQ y) (qa : ∀ i ∈ yA y, i ≤ yL y) (qm : ∀ m ∈ yM y, m.1 ∈ yA y) (qk : ∀ p ∈ yK y, p.1 ∈ yA y ∧ p.2 ∈ yA y) (hL : (yL y).toInt < 2147483647) (et ar ov : Int32) : Meets clC yX6_beginActor (kX6_beginActor :: wT) rX6_beginActor [mR 0 0, mI et, mI ar, mI ov] σ (fun r τ => ∃ al' sp' rd', RCw τ (yBegin y et ar ov).1 al' sp' rd' en ts RC0 ∧ r = some (mI (bgI (yBegin y et ar ov).2)) ∧ (∀ i ∈ al, i ∈ al' ∧ idS τ i = idS σ i) ∧ Stab al σ al' τ (yL y)) := by
  refine Meets.of SX6_beginActor rfl (by decide) rfl (Nat.le_of_ble_eq_true rfl) ?_
  intro J hJ
  have hlen := h.cells3
  have hyl : (yA y).length = al.length := by rw [← h.2.2.1.1, List.length_map]
  refine stp_j hJ 4 ⟨i0, trivial, ⟨i3 (by decide), trivial⟩, _, c_Line_at (by decide) h.1.2.1 0, ?_⟩
  rintro o τ ⟨e, rfl⟩
  have e := e.symm
  subst e
  cases sp with
  | nil =>
    refine stp_j hJ 5 ⟨al, [], rd, ?_, ?_, fun i hi => ⟨hi, rfl⟩, Stab.rf (fun _ _ => rfl)⟩
    · rw [yBegin, if_neg (by simp at hlen; omega)]
      exact h
    · rw [yBegin, if_neg (by simp at hlen; omega)]
      rfl
  | cons e sp0 =>
    have he : e ∈ e :: sp0 := List.mem_cons_self
    have e8 := h.sp8 he
    have hx : ¬ yL y + 1 ∈ yA y := fun z => by
      have h1 := qa _ z
      have h2 := l_lt hL
      exact absurd h1 (Int32.not_le.mpr h2)
    have hne : ∀ i ∈ al, ¬ i = e := fun i hi z => h.apart hi he z.symm
    have hidx : ∀ i ∈ al, ¬ idS σ i = yL y + 1 := fun i hi z => hx (by rw [← z]; exact h.mA hi)
    have hlast := h.2.2.2.2.2.2.2.2.1.2.2.2
    refine stp_j hJ 3 ?_
    refine stp_j hJ 6 ⟨i0, _, hlast, _, rfl, i0, ?_⟩
    refine stp_j hJ 7 ⟨i0, _, u3_s σ.1 0 0 10 (yL y + 1), trivial, ⟨i5 e8, trivial⟩, _, c_Ac_reset e8 (yL y + 1) et ar ov, ?_⟩
    rintro o τ1 ⟨rfl, c1, fF, fR, fT⟩
    have l1a : LnIs τ1 1 (e :: sp0) := LnIs.ch (σ := sI σ 0 0 10 (yL y + 1)) h.1.2.1 c1 (by omega) (by omega)
    have l0a : LnIs τ1 0 al := LnIs.ch (σ := sI σ 0 0 10 (yL y + 1)) h.1.1 c1 (by omega) (by omega)
    have l2a : LnIs τ1 2 rd := LnIs.ch (σ := sI σ 0 0 10 (yL y + 1)) h.1.2.2.1 c1 (by omega) (by omega)
    have l3a : LnIs τ1 3 en := LnIs.ch (σ := sI σ 0 0 10 (yL y + 1)) h.1.2.2.2 c1 (by omega) (by omega)
    refine stp_j hJ 4 ⟨i0, trivial, ⟨i3 (by decide), trivial⟩, _, c_Line_remove (by decide) l1a e8, ?_⟩
    rintro o τ2 ⟨rfl, c2, l1b⟩
    rw [List.erase_cons_head] at l1b
    refine stp_j hJ 4 ⟨i0, trivial, ⟨i3 (by decide), trivial⟩, _, c_Line_add (i3 (by decide)) (i4 (by decide)) (l0a.ch c2 (by omega) (by omega)) (i5 e8) e8 (by simp at hlen; omega), ?_⟩
    rintro o τ3 ⟨rfl, c3, l0c⟩
    have k3 : ∀ k i, ¬ (k = 3 ∨ k = 4) → τ3.1 k i = τ1.1 k i ∧ τ3.2.1 k i = τ1.2.1 k i := fun k i n => by
      obtain ⟨b1, b2, -⟩ := c3 k i (by omega)
      obtain ⟨d1, d2, -⟩ := c2 k i (by omega)
      exact ⟨b1.trans d1, b2.trans d2⟩
    have k1 : ∀ k i, ¬ k = 0 → ¬ (k = 3 ∨ k = 4) → ¬ ((k = 5 ∨ k = 6 ∨ k = 7) ∧ i = e) → τ3.1 k i = σ.1 k i ∧ τ3.2.1 k i = σ.2.1 k i := fun k i n0 n1 n2 => by
      obtain ⟨b1, b2⟩ := k3 k i n1
      obtain ⟨d1, d2, -⟩ := c1 k i n2
      exact ⟨(b1.trans d1).trans (u3_r σ.1 _ (fun z => n0 z.1)), b2.trans d2⟩
    have o5 : ∀ i, ¬ i = e → τ3.1 5 i = σ.1 5 i := fun i hi => (k1 5 i (by decide) (by omega) (fun z => hi z.2)).1
    have oid : ∀ i, ¬ i = e → idS τ3 i = idS σ i := fun i hi => by unfold idS; rw [o5 i hi]
    have eF : ∀ f, τ3.1 5 e f = rsF (yL y + 1) et ar ov (σ.1 5 e) f := fun f => by
      rw [(k3 5 e (by omega)).1, fF]
      rfl
    have eid : idS τ3 e = yL y + 1 := eF 4
    have keepMb : ∀ k ms, MbIs σ k ms → MbIs τ3 k ms := fun k ms hm => by
      have hm1 : MbIs τ1 k ms := MbIs.ch (σ := sI σ 0 0 10 (yL y + 1)) hm c1 (by omega) (by omega) (by omega)
      exact (hm1.ch c2 (by omega) (by omega) (by omega)).ch c3 (by omega) (by omega) (by omega)
    have hmx : mbx y (yL y + 1) = [] := by
      unfold mbx
      rw [List.filter_eq_nil_iff]
      intro m hm z
      exact hx (by rw [← eq_of_beq z]; exact qm m hm)
    have f3 : RCw τ3 (yNew0 y et ar ov) (al ++ [e]) sp0 rd en ts RC0 := by
      refine ⟨⟨l0c, l1b.ch c3 (by omega) (by omega), (l2a.ch c2 (by omega) (by omega)).ch c3 (by omega) (by omega), (l3a.ch c2 (by omega) (by omega)).ch c3 (by omega) (by omega)⟩, ?_, ?_, ?_, ?_, ?_, ?_, ?_, ?_, ?_, ?_⟩
      · rw [List.append_assoc]
        exact ⟨h.2.1.1, h.2.1.2.1, fun i hi => List.mem_append_left _ (h.2.1.2.2.1 i hi), fun i hi => List.mem_append_left _ (h.2.1.2.2.2 i hi)⟩
      · refine ⟨?_, ?_, ?_⟩
        · rw [List.map_append, List.map_congr_left (fun i hi => oid i (hne i hi)), h.2.2.1.1]
          show yA y ++ [idS τ3 e] = yA y ++ [yL y + 1]
          rw [eid]
        · rw [List.map_congr_left (fun i hi => oid i (hne i (h.2.1.2.2.1 i hi)))]
          exact h.2.2.1.2.1
        · refine Eq.trans (List.map_congr_left (fun i hi => ?_)) h.2.2.1.2.2
          have hi2 := hne i (h.2.1.2.2.2 i hi)
          rw [oid i hi2, o5 i hi2]
      · intro i hi
        rcases List.mem_append.mp hi with hi | hi
        · have hi2 := hne i hi
          obtain ⟨⟨f0, f1, f2, f3, f4, f5, b0, b1, rr⟩, hh, hm⟩ := h.2.2.2.1 i hi
          have nf : ∀ n, yF (yNew0 y et ar ov) n (idS σ i) = yF y n (idS σ i) := fun n => if_neg (hidx i hi)
          have nb : ∀ n, yB (yNew0 y et ar ov) n (idS σ i) = yB y n (idS σ i) := fun n => if_neg (hidx i hi)
          have nh : yH (yNew0 y et ar ov) (idS σ i) = yH y (idS σ i) := if_neg (hidx i hi)
          have e6 := (k1 6 i (by decide) (by omega) (fun z => hi2 z.2)).1
          have e7 := (k1 7 i (by decide) (by omega) (fun z => hi2 z.2)).2
          unfold AcF AcH AcM
          simp only [oid i hi2, o5 i hi2, e6, e7, nf, nb, nh]
          exact ⟨⟨f0, f1, f2, f3, f4, f5, b0, b1, rr⟩, hh, keepMb i _ hm⟩
        · rw [List.mem_singleton.mp hi]
          have nf : ∀ n, yF (yNew0 y et ar ov) n (yL y + 1) = nF et ar ov n := fun n => if_pos rfl
          have nb : ∀ n, yB (yNew0 y et ar ov) n (yL y + 1) = false := fun n => if_pos rfl
          have nh : yH (yNew0 y et ar ov) (yL y + 1) = (-10, -10, -10) := if_pos rfl
          unfold AcF AcH AcM
          rw [eid]
          simp only [nf, nb, nh]
          refine ⟨⟨eF 5, eF 6, eF 7, eF 8, eF 11, eF 12, eF 9, eF 10, fun r hr => ?_⟩, ⟨?_, ?_, ?_⟩, ?_⟩
          · rw [(k3 6 e (by omega)).1, fR r hr]
            rcases (show r = 0 ∨ r = 1 ∨ r = 2 ∨ r = 3 by omega) with rfl | rfl | rfl | rfl <;> rfl
          · rw [(k3 7 e (by omega)).2, fT 0 (by decide)]
            rfl
          · rw [(k3 7 e (by omega)).2, fT 1 (by decide)]
            rfl
          · rw [(k3 7 e (by omega)).2, fT 2 (by decide)]
            rfl
          · rw [show mbx (yNew0 y et ar ov) (yL y + 1) = [] from hmx]
            exact keepMb e [] (h.2.2.2.2.2.2.2.2.2.2 e he)
      · intro i hi j hj
        rcases List.mem_append.mp hi with hi | hi
        · have hi2 := hne i hi
          rw [o5 i hi2, oid i hi2]
          have L := h.2.2.2.2.1 i hi j hj
          refine ⟨fun hja => ?_, fun hja => ?_⟩
          · rcases List.mem_append.mp hja with hja | hja
            · rw [oid j (hne j hja)]
              exact L.1 hja
            · have ej := List.mem_singleton.mp hja
              subst ej
              rw [eid]
              exact (L.2 (fun z => hne _ z rfl)).trans (lkd_no hx qk (idS σ i)).2.symm
          · exact L.2 (fun z => hja (List.mem_append_left _ z))
        · rw [List.mem_singleton.mp hi, eid, show τ3.1 5 e 14 = 0 from eF 14]
          exact ⟨fun _ => (lb_0 j).trans (lkd_no hx qk _).1.symm, fun _ => lb_0 j⟩
      · have t1 : TmIs τ1 ts := TmIs.ch (σ := sI σ 0 0 10 (yL y + 1)) h.2.2.2.2.2.1.1 c1 (by omega) (by omega) (by omega) (by omega) (by omega)
        exact ⟨(t1.ch c2 (by omega) (by omega) (by omega) (by omega) (by omega)).ch c3 (by omega) (by omega) (by omega) (by omega) (by omega), h.2.2.2.2.2.1.2⟩
      · have t1 : OutIs τ1 (yO y) := OutIs.ch (σ := sI σ 0 0 10 (yL y + 1)) h.2.2.2.2.2.2.1 c1 (by omega) (by omega) (by omega)
        exact (t1.ch c2 (by omega) (by omega) (by omega)).ch c3 (by omega) (by omega) (by omega)
      · intro k hk a ha
        rw [(k1 2 k (by decide) (by omega) (by omega)).1]
        exact h.2.2.2.2.2.2.2.1 k hk a ha
      · obtain ⟨b1, b2⟩ := k3 0 0 (by omega)
        obtain ⟨d1, d2, -⟩ := c1 0 0 (by omega)
        have s0 := h.2.2.2.2.2.2.2.2.1
        refine ⟨?_, ?_, ?_, ?_⟩
        · rw [b2, d2]
          exact s0.1
        · rw [b1, d1]
          exact s0.2.1
        · rw [b1, d1]
          exact s0.2.2.1
        · rw [b1, d1]
          exact u3_s σ.1 0 0 10 (yL y + 1)
      · intro i hi
        by_cases ei : i = e
        · subst ei
          rw [eF 0]
          exact h.2.2.2.2.2.2.2.2.2.1 i hi
        · rw [o5 i ei]
          exact h.2.2.2.2.2.2.2.2.2.1 i hi
      · intro i hi
        exact keepMb i [] (h.2.2.2.2.2.2.2.2.2.2 i (List.mem_cons_of_mem _ hi))
    have srt : Srt (yNew0 y et ar ov) := by
      show (yA y ++ [yL y + 1]).Pairwise (· < ·)
      rw [List.pairwise_append]
      exact ⟨q.1, by simp, fun a ha b hb => by rw [List.mem_singleton.mp hb]; exact Int32.lt_of_le_of_lt (qa a ha) (l_lt hL)⟩
    refine stp_j hJ 3 ⟨trivial, ⟨i0, trivial⟩, _, c_makeReady f3 srt q.2.1 (List.mem_append_right _ (List.mem_singleton.mpr rfl)) (fun z => hne e (h.2.1.2.2.1 e z) rfl), ?_⟩
    rintro o τ4 ⟨rfl, f4, -⟩
    rw [eid] at f4
    have hb : yBegin y et ar ov = (yNew y et ar ov, some (yL y + 1)) := by
      rw [yBegin, if_pos (by simp at hlen; omega)]
    have hl4 : τ4.1 0 0 10 = yL y + 1 := f4.2.2.2.2.2.2.2.2.1.2.2.2
    have m1 := f4.2.2.1.1
    have m2 := f3.2.2.1.1
    have m3 : (al ++ [e]).map (idS τ4) = (al ++ [e]).map (idS τ3) := m1.trans m2.symm
    have m4 : ∀ i ∈ al, idS τ4 i = idS σ i := fun i hi => (List.map_inj_left.mp m3 i (List.mem_append_left _ hi)).trans (oid i (hne i hi))
    have m5 : idS τ4 e = yL y + 1 := (List.map_inj_left.mp m3 e (List.mem_append_right _ (List.mem_singleton.mpr rfl))).trans eid
    refine stp_j hJ 3 ⟨i0, _, hl4, al ++ [e], sp0, rd ++ [e], ?_, ?_, fun i hi => ⟨List.mem_append_left _ hi, m4 i hi⟩, fun k hk => ?_⟩
    · rw [hb]
      exact f4
    · rw [hb]
      rfl
    · rcases List.mem_append.mp hk with hk | hk
      · exact Or.inl ⟨hk, m4 k hk⟩
      · rw [List.mem_singleton.mp hk, m5]
        exact Or.inr (l_lt hL)
end LIFE
