/-! The class's public reads, and the smaller writes -/
def RC (σ : mS) (y : Yd) : Prop := ∃ al sp rd en ts, RCw σ y al sp rd en ts RC0
def aStatus (y : Yd) (d : Int32) : Int32 := if d < 1 ∨ yL y < d then -1 else if d ∈ yA y then (if yB y 1 d = true then 2 else 1) else 0
def aRegister (y : Yd) (d r : Int32) : Int32 := if d ∈ yA y ∧ 0 ≤ r ∧ r < 4 then yF y (rg r) d else 0
def aField (y : Yd) (n : Nat) (d : Int32) : Int32 := if d ∈ yA y then yF y n d else -3
def aMail (y : Yd) (d : Int32) : Int32 := if d ∈ yA y then nI (mbx y d).length else -3
def aMessage (y : Yd) (d k : Int32) : Int32 := if d ∈ yA y then mAt ((mbx y d).map vS) k else 0
def aLinked (y : Yd) (d o : Int32) : Prop := d ∈ yA y ∧ o ∈ yA y ∧ lkd y d o = true
def aSup (y : Yd) (d : Int32) : Int32 := if d ∈ yA y then (if yF y 2 d ∈ yA y then yF y 2 d else 0) else -3
def aQueue (y : Yd) (k : Int32) : Int32 := if k < 0 then 0 else match (yQ y)[k.toNatClampNeg]? with
  | none => 0
  | some d => d
def aOutput (y : Yd) (i : Int32) : Int32 := if i = -1 then nI (yO y).length else if i < 0 then 0 else match (yO y)[i.toNatClampNeg]? with
  | none => 0
  | some m => m.1
def aAuthor (y : Yd) (i : Int32) : Int32 := if i < 0 then -1 else match (yO y)[i.toNatClampNeg]? with
  | none => -1
  | some m => m.2
section PUB
variable {σ : mS} {y : Yd}
theorem p_room (h : RC σ y) : Meets clC yX6_room (kX6_room :: wT) rX6_room [mR 0 0] σ (fun r τ => τ = σ ∧ r = some (mI (nI (yR y)))) := by
  obtain ⟨al, sp, rd, en, ts, h⟩ := h
  refine Meets.of SX6_room rfl (by decide) rfl (Nat.le_of_ble_eq_true rfl) ?_
  intro J hJ
  exact stp_j hJ 3 ⟨i0, _, h.2.2.2.2.2.2.2.2.1.2.1, rfl, rfl⟩
theorem p_lost (h : RC σ y) : Meets clC yX6_lost (kX6_lost :: wT) rX6_lost [mR 0 0] σ (fun r τ => τ = σ ∧ r = some (mI (yX y))) := by
  obtain ⟨al, sp, rd, en, ts, h⟩ := h
  refine Meets.of SX6_lost rfl (by decide) rfl (Nat.le_of_ble_eq_true rfl) ?_
  intro J hJ
  exact stp_j hJ 3 ⟨i0, _, h.2.2.2.2.2.2.2.2.1.2.2.1, rfl, rfl⟩
theorem p_timers (h : RC σ y) : Meets clC yX6_timers (kX6_timers :: wT) rX6_timers [mR 0 0] σ (fun r τ => τ = σ ∧ r = some (mI (nI (yT y).length))) := by
  obtain ⟨al, sp, rd, en, ts, h⟩ := h
  refine Meets.of SX6_timers rfl (by decide) rfl (Nat.le_of_ble_eq_true rfl) ?_
  intro J hJ
  refine stp_j hJ 4 ⟨i0, i11, _, h.2.2.2.2.2.1.1.1, rfl, ?_⟩
  rw [← h.2.2.2.2.2.1.2, List.length_map]
theorem p_status (h : RC σ y) (d : Int32) : Meets clC yX6_status (kX6_status :: wT) rX6_status [mR 0 0, mI d] σ (fun r τ => τ = σ ∧ r = some (mI (aStatus y d))) := by
  obtain ⟨al, sp, rd, en, ts, h⟩ := h
  refine Meets.of SX6_status rfl (by decide) rfl (Nat.le_of_ble_eq_true rfl) ?_
  intro J hJ
  have bad : (d < 1 ∨ yL y < d) → J σ 13 [(0, mR 0 0), (1, mI d)] [] := fun z => stp_j hJ 2 ⟨rfl, by rw [aStatus, if_pos z]⟩
  refine stp_j hJ 3 ⟨fun h1 => bad (Or.inl h1), fun h1 => ?_⟩
  refine stp_j hJ 4 ⟨i0, _, h.2.2.2.2.2.2.2.2.1.2.2.2, fun h2 => ?_, fun h2 => bad (Or.inr (Int32.not_le.mp h2))⟩
  have ok : ¬ (d < 1 ∨ yL y < d) := fun z => z.elim h1 (fun z => absurd h2 (Int32.not_le.mpr z))
  refine stp_j hJ 4 ⟨i0, trivial, ⟨i3 (by decide), trivial⟩, _, c_Line_find (by decide) h.1.1 d, ?_⟩
  rintro o τ ⟨w, rfl⟩
  have w := w.symm
  subst w
  rcases h.find d with ⟨i, hf, hi, e, hv⟩ | ⟨hf, hv⟩
  · rw [hf]
    have h8 := h.lt8 hi
    have hw := (h.2.2.2.1 i hi).1.2.2.2.2.2.2.2.1
    rw [e] at hw
    refine stp_j hJ 3 ?_
    refine stp_j hJ 3 ⟨i5 h8, _, hw, fun h3 => ?_, fun h3 => ?_⟩
    · have hb : ¬ yB y 1 d = true := fun z => by rw [z] at h3; exact absurd h3 (by decide)
      exact stp_j hJ 2 ⟨rfl, by rw [aStatus, if_neg ok, if_pos hv, if_neg hb]⟩
    · have hb : yB y 1 d = true := by
        cases hb : yB y 1 d with
        | true => rfl
        | false => rw [hb] at h3; exact absurd rfl h3
      exact stp_j hJ 3 ⟨rfl, by rw [aStatus, if_neg ok, if_pos hv, if_pos hb]⟩
  · rw [hf]
    exact stp_j hJ 5 ⟨rfl, by rw [aStatus, if_neg ok, if_neg hv]⟩
theorem p_register (h : RC σ y) (d r : Int32) : Meets clC yX6_register (kX6_register :: wT) rX6_register [mR 0 0, mI d, mI r] σ (fun o τ => τ = σ ∧ o = some (mI (aRegister y d r))) := by
  obtain ⟨al, sp, rd, en, ts, h⟩ := h
  refine Meets.of SX6_register rfl (by decide) rfl (Nat.le_of_ble_eq_true rfl) ?_
  intro J hJ
  refine stp_j hJ 4 ⟨i0, trivial, ⟨i3 (by decide), trivial⟩, _, c_Line_find (by decide) h.1.1 d, ?_⟩
  rintro o τ ⟨w, rfl⟩
  have w := w.symm
  subst w
  rcases h.find d with ⟨i, hf, hi, e, hv⟩ | ⟨hf, hv⟩
  · rw [hf]
    have h8 := h.lt8 hi
    refine stp_j hJ 3 ?_
    refine stp_j hJ 2 ⟨trivial, rfl, _, c_Code_isRegister σ r, ?_⟩
    rintro o τ ⟨w, hy⟩
    have w := w.symm
    subst w
    rcases hy with ⟨rfl, hr⟩ | ⟨rfl, hr⟩
    · have hix := ix_of hr.1 hr.2 (n := 4) rfl
      have hreg := (h.2.2.2.1 i hi).1.2.2.2.2.2.2.2.2 _ (clamp_lt hix)
      rw [e] at hreg
      refine stp_j hJ 1 ⟨fun _ => ?_, fun z => absurd (by decide) z⟩
      exact stp_j hJ 5 ⟨i5 h8, i6 h8, _, hix, _, hreg, rfl, by rw [aRegister, if_pos ⟨hv, hr⟩]; rfl⟩
    · refine stp_j hJ 1 ⟨fun z => absurd rfl z, fun _ => ?_⟩
      exact stp_j hJ 3 ⟨rfl, by rw [aRegister, if_neg (fun z => hr z.2)]⟩
  · rw [hf]
    exact stp_j hJ 6 ⟨rfl, by rw [aRegister, if_neg (fun z => hv z.1)]⟩
theorem p_place (h : RC σ y) (d : Int32) : Meets clC yX6_place (kX6_place :: wT) rX6_place [mR 0 0, mI d] σ (fun o τ => τ = σ ∧ o = some (mI (aField y 3 d))) := by
  obtain ⟨al, sp, rd, en, ts, h⟩ := h
  refine Meets.of SX6_place rfl (by decide) rfl (Nat.le_of_ble_eq_true rfl) ?_
  intro J hJ
  refine stp_j hJ 4 ⟨i0, trivial, ⟨i3 (by decide), trivial⟩, _, c_Line_find (by decide) h.1.1 d, ?_⟩
  rintro o τ ⟨w, rfl⟩
  have w := w.symm
  subst w
  rcases h.find d with ⟨i, hf, hi, e, hv⟩ | ⟨hf, hv⟩
  · rw [hf]
    have hw := (h.2.2.2.1 i hi).1.2.2.2.1
    rw [e] at hw
    exact stp_j hJ 6 ⟨i5 (h.lt8 hi), _, hw, rfl, by rw [aField, if_pos hv]⟩
  · rw [hf]
    exact stp_j hJ 6 ⟨rfl, by rw [aField, if_neg hv]⟩
theorem p_restarts (h : RC σ y) (d : Int32) : Meets clC yX6_restarts (kX6_restarts :: wT) rX6_restarts [mR 0 0, mI d] σ (fun o τ => τ = σ ∧ o = some (mI (aField y 5 d))) := by
  obtain ⟨al, sp, rd, en, ts, h⟩ := h
  refine Meets.of SX6_restarts rfl (by decide) rfl (Nat.le_of_ble_eq_true rfl) ?_
  intro J hJ
  refine stp_j hJ 4 ⟨i0, trivial, ⟨i3 (by decide), trivial⟩, _, c_Line_find (by decide) h.1.1 d, ?_⟩
  rintro o τ ⟨w, rfl⟩
  have w := w.symm
  subst w
  rcases h.find d with ⟨i, hf, hi, e, hv⟩ | ⟨hf, hv⟩
  · rw [hf]
    have hw := (h.2.2.2.1 i hi).1.2.2.2.2.2.1
    rw [e] at hw
    exact stp_j hJ 6 ⟨i5 (h.lt8 hi), _, hw, rfl, by rw [aField, if_pos hv]⟩
  · rw [hf]
    exact stp_j hJ 6 ⟨rfl, by rw [aField, if_neg hv]⟩
theorem p_mail (h : RC σ y) (d : Int32) : Meets clC yX6_mail (kX6_mail :: wT) rX6_mail [mR 0 0, mI d] σ (fun o τ => τ = σ ∧ o = some (mI (aMail y d))) := by
  obtain ⟨al, sp, rd, en, ts, h⟩ := h
  refine Meets.of SX6_mail rfl (by decide) rfl (Nat.le_of_ble_eq_true rfl) ?_
  intro J hJ
  refine stp_j hJ 4 ⟨i0, trivial, ⟨i3 (by decide), trivial⟩, _, c_Line_find (by decide) h.1.1 d, ?_⟩
  rintro o τ ⟨w, rfl⟩
  have w := w.symm
  subst w
  rcases h.find d with ⟨i, hf, hi, e, hv⟩ | ⟨hf, hv⟩
  · rw [hf]
    have h8 := h.lt8 hi
    obtain ⟨hd, a1, a2, a3, a4, a5⟩ := (h.2.2.2.1 i hi).2.2
    rw [List.length_map, e] at a3
    exact stp_j hJ 7 ⟨i5 h8, i8 h8, _, a3, rfl, by rw [aMail, if_pos hv]⟩
  · rw [hf]
    exact stp_j hJ 6 ⟨rfl, by rw [aMail, if_neg hv]⟩
theorem p_message (h : RC σ y) (d k : Int32) : Meets clC yX6_message (kX6_message :: wT) rX6_message [mR 0 0, mI d, mI k] σ (fun o τ => τ = σ ∧ o = some (mI (aMessage y d k))) := by
  obtain ⟨al, sp, rd, en, ts, h⟩ := h
  refine Meets.of SX6_message rfl (by decide) rfl (Nat.le_of_ble_eq_true rfl) ?_
  intro J hJ
  refine stp_j hJ 4 ⟨i0, trivial, ⟨i3 (by decide), trivial⟩, _, c_Line_find (by decide) h.1.1 d, ?_⟩
  rintro o τ ⟨w, rfl⟩
  have w := w.symm
  subst w
  rcases h.find d with ⟨i, hf, hi, e, hv⟩ | ⟨hf, hv⟩
  · rw [hf]
    have h8 := h.lt8 hi
    have hm := (h.2.2.2.1 i hi).2.2
    unfold AcM at hm
    rw [e] at hm
    refine stp_j hJ 3 ?_
    refine stp_j hJ 4 ⟨i5 h8, trivial, ⟨i8 h8, trivial⟩, _, c_Mb_valueAt h8 hm k, ?_⟩
    rintro o τ ⟨w, rfl⟩
    have w := w.symm
    subst w
    exact stp_j hJ 1 ⟨rfl, by rw [aMessage, if_pos hv]⟩
  · rw [hf]
    exact stp_j hJ 6 ⟨rfl, by rw [aMessage, if_neg hv]⟩
theorem p_supervisor (h : RC σ y) (d : Int32) : Meets clC yX6_supervisor (kX6_supervisor :: wT) rX6_supervisor [mR 0 0, mI d] σ (fun o τ => τ = σ ∧ o = some (mI (aSup y d))) := by
  obtain ⟨al, sp, rd, en, ts, h⟩ := h
  refine Meets.of SX6_supervisor rfl (by decide) rfl (Nat.le_of_ble_eq_true rfl) ?_
  intro J hJ
  refine stp_j hJ 4 ⟨i0, trivial, ⟨i3 (by decide), trivial⟩, _, c_Line_find (by decide) h.1.1 d, ?_⟩
  rintro o τ ⟨w, rfl⟩
  have w := w.symm
  subst w
  rcases h.find d with ⟨i, hf, hi, e, hv⟩ | ⟨hf, hv⟩
  · rw [hf]
    have h8 := h.lt8 hi
    have hw := (h.2.2.2.1 i hi).1.2.2.1
    rw [e] at hw
    refine stp_j hJ 3 ?_
    refine stp_j hJ 5 ⟨i0, i5 h8, _, hw, trivial, ⟨i3 (by decide), trivial⟩, _, c_Line_find (by decide) h.1.1 _, ?_⟩
    rintro o τ ⟨w, rfl⟩
    have w := w.symm
    subst w
    rcases h.find (yF y 2 d) with ⟨k, hf2, hk, e2, hv2⟩ | ⟨hf2, hv2⟩
    · rw [hf2]
      exact stp_j hJ 4 ⟨i5 h8, _, hw, rfl, by rw [aSup, if_pos hv, if_pos hv2]⟩
    · rw [hf2]
      exact stp_j hJ 4 ⟨rfl, by rw [aSup, if_pos hv, if_neg hv2]⟩
  · rw [hf]
    exact stp_j hJ 5 ⟨rfl, by rw [aSup, if_neg hv]⟩
theorem p_linked (h : RC σ y) (d o : Int32) : Meets clC yX6_linked (kX6_linked :: wT) rX6_linked [mR 0 0, mI d, mI o] σ (fun r τ => τ = σ ∧ yes (aLinked y d o) r) := by
  obtain ⟨al, sp, rd, en, ts, h⟩ := h
  refine Meets.of SX6_linked rfl (by decide) rfl (Nat.le_of_ble_eq_true rfl) ?_
  intro J hJ
  refine stp_j hJ 4 ⟨i0, trivial, ⟨i3 (by decide), trivial⟩, _, c_Line_find (by decide) h.1.1 d, ?_⟩
  rintro r τ ⟨w, rfl⟩
  have w := w.symm
  subst w
  refine stp_j hJ 5 ⟨i0, trivial, ⟨i3 (by decide), trivial⟩, _, c_Line_find (by decide) h.1.1 o, ?_⟩
  rintro r τ ⟨w, rfl⟩
  have w := w.symm
  subst w
  rcases h.find d with ⟨i, hf, hi, e, hv⟩ | ⟨hf, hv⟩
  · rcases h.find o with ⟨k, hf2, hk, e2, hv2⟩ | ⟨hf2, hv2⟩
    · rw [hf, hf2]
      have h8 := h.lt8 hi
      have k8 := h.lt8 hk
      have L := (h.2.2.2.2.1 i hi k k8).1 hk
      rw [e, e2] at L
      refine stp_j hJ 5 ?_
      refine stp_j hJ 3 ⟨trivial, ⟨i5 h8, trivial⟩, _, c_Ac_isLinkedWith h8 k8 (h.2.2.2.2.2.2.2.2.2.1 k k8), ?_⟩
      rintro r τ ⟨w, hy⟩
      have w := w.symm
      subst w
      rcases hy with ⟨rfl, hl⟩ | ⟨rfl, hl⟩
      · refine stp_j hJ 1 ⟨fun z => absurd z (by decide), fun _ => ?_⟩
        exact stp_j hJ 3 ⟨Or.inr rfl, rfl, Or.inl ⟨rfl, hv, hv2, L.symm.trans hl⟩⟩
      · refine stp_j hJ 1 ⟨fun _ => ?_, fun z => absurd rfl z⟩
        exact stp_j hJ 2 ⟨Or.inl rfl, rfl, Or.inr ⟨rfl, fun z => hl (L.trans z.2.2)⟩⟩
    · rw [hf, hf2]
      exact stp_j hJ 7 ⟨Or.inl rfl, rfl, Or.inr ⟨rfl, fun z => hv2 z.2.1⟩⟩
  · rw [hf]
    exact stp_j hJ 5 ⟨Or.inl rfl, rfl, Or.inr ⟨rfl, fun z => hv z.1⟩⟩
theorem p_queue (h : RC σ y) (k : Int32) : Meets clC yX6_queue (kX6_queue :: wT) rX6_queue [mR 0 0, mI k] σ (fun o τ => τ = σ ∧ o = some (mI (aQueue y k))) := by
  obtain ⟨al, sp, rd, en, ts, h⟩ := h
  refine Meets.of SX6_queue rfl (by decide) rfl (Nat.le_of_ble_eq_true rfl) ?_
  intro J hJ
  refine stp_j hJ 4 ⟨i0, trivial, ⟨i3 (by decide), trivial⟩, _, c_Line_at (by decide) h.1.2.2.1 k, ?_⟩
  rintro o τ ⟨w, rfl⟩
  have w := w.symm
  subst w
  by_cases hk : k < 0
  · rw [if_pos hk]
    exact stp_j hJ 6 ⟨rfl, by rw [aQueue, if_pos hk]⟩
  · rw [if_neg hk]
    cases hx : rd[k.toNatClampNeg]? with
    | none =>
      refine stp_j hJ 6 ⟨rfl, ?_⟩
      rw [aQueue, if_neg hk, ← h.2.2.1.2.1, List.getElem?_map, hx]
      rfl
    | some i =>
      have hi := h.2.1.2.2.1 i (List.mem_of_getElem? hx)
      refine stp_j hJ 6 ⟨i5 (h.lt8 hi), _, rfl, rfl, ?_⟩
      rw [aQueue, if_neg hk, ← h.2.2.1.2.1, List.getElem?_map, hx]
      rfl
theorem p_output (h : RC σ y) (i : Int32) : Meets clC yX6_output (kX6_output :: wT) rX6_output [mR 0 0, mI i] σ (fun o τ => τ = σ ∧ o = some (mI (aOutput y i))) := by
  obtain ⟨al, sp, rd, en, ts, h⟩ := h
  refine Meets.of SX6_output rfl (by decide) rfl (Nat.le_of_ble_eq_true rfl) ?_
  intro J hJ
  have ho := h.2.2.2.2.2.2.1
  refine stp_j hJ 3 ⟨fun h1 => ?_, fun h1 => ?_⟩
  · refine stp_j hJ 4 ⟨i0, trivial, ⟨i15, trivial⟩, _, c_Out_has ho i, ?_⟩
    rintro o τ ⟨w, hy⟩
    have w := w.symm
    subst w
    have h60 := ho.2.1
    rcases hy with ⟨rfl, hr⟩ | ⟨rfl, hr⟩
    · have h0 : ¬ i < 0 := Int32.not_lt.mpr hr.1
      obtain ⟨p, hp, rfl⟩ := nI_of h0
      have hlt : p < (yO y).length := (nI_ltI hp (by omega)).mp hr.2
      have hx : (yO y)[p]? = some (yO y)[p] := List.getElem?_eq_getElem hlt
      refine stp_j hJ 1 ⟨fun z => absurd z (by decide), fun _ => ?_⟩
      refine stp_j hJ 7 ⟨i0, i15, i16 (by decide), p, ix_nI (by omega) (by decide), _, (ho.2.2 p _ hx).1, rfl, ?_⟩
      rw [aOutput, if_neg h1, if_neg h0, nI_clamp hp, hx]
    · refine stp_j hJ 1 ⟨fun _ => ?_, fun z => absurd rfl z⟩
      refine stp_j hJ 2 ⟨rfl, ?_⟩
      rw [aOutput, if_neg h1]
      by_cases h0 : i < 0
      · rw [if_pos h0]
      · rw [if_neg h0]
        obtain ⟨p, hp, rfl⟩ := nI_of h0
        have hge : (yO y).length ≤ p := Nat.not_lt.mp (fun z => hr ⟨Int32.not_lt.mp h0, (nI_ltI hp (by omega)).mpr z⟩)
        rw [nI_clamp hp, List.getElem?_eq_none hge]
  · have h1 : i = -1 := Decidable.not_not.mp h1
    exact stp_j hJ 4 ⟨i0, i15, _, ho.1, rfl, by rw [aOutput, if_pos h1]⟩
theorem p_author (h : RC σ y) (i : Int32) : Meets clC yX6_author (kX6_author :: wT) rX6_author [mR 0 0, mI i] σ (fun o τ => τ = σ ∧ o = some (mI (aAuthor y i))) := by
  obtain ⟨al, sp, rd, en, ts, h⟩ := h
  refine Meets.of SX6_author rfl (by decide) rfl (Nat.le_of_ble_eq_true rfl) ?_
  intro J hJ
  have ho := h.2.2.2.2.2.2.1
  refine stp_j hJ 4 ⟨i0, trivial, ⟨i15, trivial⟩, _, c_Out_has ho i, ?_⟩
  rintro o τ ⟨w, hy⟩
  have w := w.symm
  subst w
  have h60 := ho.2.1
  rcases hy with ⟨rfl, hr⟩ | ⟨rfl, hr⟩
  · have h0 : ¬ i < 0 := Int32.not_lt.mpr hr.1
    obtain ⟨p, hp, rfl⟩ := nI_of h0
    have hlt : p < (yO y).length := (nI_ltI hp (by omega)).mp hr.2
    have hx : (yO y)[p]? = some (yO y)[p] := List.getElem?_eq_getElem hlt
    refine stp_j hJ 1 ⟨fun z => absurd z (by decide), fun _ => ?_⟩
    refine stp_j hJ 7 ⟨i0, i15, i16 (by decide), p, ix_nI (by omega) (by decide), _, (ho.2.2 p _ hx).2, rfl, ?_⟩
    rw [aAuthor, if_neg h0, nI_clamp hp, hx]
  · refine stp_j hJ 1 ⟨fun _ => ?_, fun z => absurd rfl z⟩
    refine stp_j hJ 2 ⟨rfl, ?_⟩
    rw [aAuthor]
    by_cases h0 : i < 0
    · rw [if_pos h0]
    · rw [if_neg h0]
      obtain ⟨p, hp, rfl⟩ := nI_of h0
      have hge : (yO y).length ≤ p := Nat.not_lt.mp (fun z => hr ⟨Int32.not_lt.mp h0, (nI_ltI hp (by omega)).mpr z⟩)
      rw [nI_clamp hp, List.getElem?_eq_none hge]
end PUB
