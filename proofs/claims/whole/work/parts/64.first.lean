/-! The first worlds hold the first yard -/
def y00 : Yd := (fun _ _ => 0, fun _ _ => false, fun _ => (-10, -10, -10), [], [], [], [], [], [], [], fun k _ => if k = 0 then -1 else 0, 0, 24, 0, 0)
def adR (a0 q1 q2 q3 q4 q5 q6 q7 q8 q9 q10 q11 q12 q13 q14 q15 q16 q17 q18 q19 q20 q21 q22 q23 q24 q25 q26 q27 q28 : Nat) : Nat → Nat → Nat := fun k i => match k with
  | 20 => a0
  | 21 => (match i with | 0 => q1 | 1 => q2 | _ => q3)
  | 22 => (match i with | 0 => q4 | 1 => q6 | 2 => q7 | 3 => q8 | 4 => q10 | 5 => q12 | 6 => q13 | _ => q15)
  | 23 => (match i with | 0 => q9 | _ => q11)
  | 24 => q5
  | 25 => (match i with | 0 => q14 | 1 => q16 | 2 => q17 | 3 => q18 | 4 => q19 | _ => q20)
  | 26 => (match i with | 0 => q21 | 1 => q22 | _ => q23)
  | 27 => q24
  | 28 => (match i with | 0 => q25 | _ => q26)
  | 29 => (match i with | 0 => q27 | _ => q28)
  | _ => 0
def clR2 : mC := [(20, 0), (21, 0), (21, 1), (21, 2), (22, 0), (24, 0), (22, 1), (22, 2), (22, 3), (23, 0), (22, 4), (23, 1), (22, 5), (22, 6), (25, 0), (22, 7), (25, 1), (25, 2), (25, 3), (25, 4), (25, 5), (26, 0), (26, 1), (26, 2), (27, 0), (28, 0), (28, 1), (29, 0), (29, 1)]
theorem clR2_p : clR2.Perm clR := by decide +kernel
theorem wlR {cA : Nat → ClassId} {a0 : Nat} {w : va_W} (h : ouX7_init cA a0 w) : ∃ ad : Nat → Nat → Nat, ad 20 0 = a0 ∧ w.Perm (wl cA ad s00 clR) := by
  obtain ⟨q1, q2, q3, q4, q5, q6, q7, q8, q9, q10, q11, q12, q13, q14, q15, q16, q17, q18, q19, q20, q21, q22, q23, q24, q25, q26, q27, q28, rfl⟩ := h
  refine ⟨adR a0 q1 q2 q3 q4 q5 q6 q7 q8 q9 q10 q11 q12 q13 q14 q15 q16 q17 q18 q19 q20 q21 q22 q23 q24 q25 q26 q27 q28, rfl, ?_⟩
  have e : wl cA (adR a0 q1 q2 q3 q4 q5 q6 q7 q8 q9 q10 q11 q12 q13 q14 q15 q16 q17 q18 q19 q20 q21 q22 q23 q24 q25 q26 q27 q28) s00 clR2 = _ := rfl
  exact (List.Perm.of_eq (show _ = wl cA (adR a0 q1 q2 q3 q4 q5 q6 q7 q8 q9 q10 q11 q12 q13 q14 q15 q16 q17 q18 q19 q20 q21 q22 q23 q24 q25 q26 q27 q28) s00 clR2 from rfl)).trans (clR2_p.map _)
def adY (α : Nat → aU) (a0 q1 q2 q3 q4 q5 q6 q7 q8 q9 q10 q11 q12 q13 q14 q15 q16 q17 q18 q19 q20 : Nat) : Nat → Nat → Nat := fun k i => match k with
  | 0 => a0
  | 1 => q1
  | 2 => (match i with | 0 => q2 | 1 => q3 | _ => q4)
  | 3 => (match i with | 0 => q5 | 1 => q7 | 2 => q9 | _ => q11)
  | 4 => (match i with | 0 => q6 | 1 => q8 | 2 => q10 | _ => q12)
  | 5 => (α i).1
  | 6 => (α i).2.1
  | 8 => (α i).2.2.1
  | 9 => (α i).2.2.2.1
  | 10 => (α i).2.2.2.2.1
  | 7 => (α i).2.2.2.2.2
  | 11 => q13
  | 12 => (match i with | 0 => q14 | _ => q15)
  | 13 => q16
  | 14 => q17
  | 15 => q18
  | _ => (match i with | 0 => q19 | _ => q20)
def sY (f : Nat → Int32) : mS := (fun k i p => if k = 2 ∧ i = 0 then f p else if k = 0 ∧ p = 8 then nI 24 else if k = 3 ∧ i = 1 ∧ p = 1 then nI 8 else if k = 5 ∧ p = 0 then nI i else 0, fun _ _ _ => 0, fun k i p => if k = 4 ∧ i = 1 ∧ p < 8 then some (5, p) else none)
def clY2 : mC := [(3, 1), (4, 1), (0, 0), (1, 0), (2, 0), (2, 1), (2, 2), (3, 0), (4, 0), (3, 2), (4, 2), (3, 3), (4, 3), (11, 0), (12, 0), (12, 1), (13, 0), (14, 0), (15, 0), (16, 0), (16, 1), (5, 0), (6, 0), (8, 0), (9, 0), (10, 0), (7, 0), (5, 1), (6, 1), (8, 1), (9, 1), (10, 1), (7, 1), (5, 2), (6, 2), (8, 2), (9, 2), (10, 2), (7, 2), (5, 3), (6, 3), (8, 3), (9, 3), (10, 3), (7, 3), (5, 4), (6, 4), (8, 4), (9, 4), (10, 4), (7, 4), (5, 5), (6, 5), (8, 5), (9, 5), (10, 5), (7, 5), (5, 6), (6, 6), (8, 6), (9, 6), (10, 6), (7, 6), (5, 7), (6, 7), (8, 7), (9, 7), (10, 7), (7, 7)]
theorem clY2_p : clY2.Perm clC := by decide +kernel
theorem wlY {cA : Nat → ClassId} {a0 : Nat} {w : va_W} (h : ouX6_init cA a0 w) : ∃ (ad : Nat → Nat → Nat) (f : Nat → Int32), ad 0 0 = a0 ∧ (∀ p, p < 48 → f p = -1) ∧ w.Perm (wl cA ad (sY f) clC) := by
  obtain ⟨q1, q2, q3, q4, q5, q6, q7, q8, q9, q10, q11, q12, q13, q14, q15, q16, q17, q18, q19, q20, f, α, hf, rfl⟩ := h
  refine ⟨adY α a0 q1 q2 q3 q4 q5 q6 q7 q8 q9 q10 q11 q12 q13 q14 q15 q16 q17 q18 q19 q20, f, rfl, hf, ?_⟩
  have er : rowf α 8 = fun p => cad (adY α a0 q1 q2 q3 q4 q5 q6 q7 q8 q9 q10 q11 q12 q13 q14 q15 q16 q17 q18 q19 q20) ((sY f).2.2 4 1 p) := by
    funext p
    show rowf α 8 p = cad _ (if 4 = 4 ∧ 1 = 1 ∧ p < 8 then some (5, p) else none)
    unfold rowf
    by_cases hp : p < 8
    · rw [if_pos hp, if_pos ⟨rfl, rfl, hp⟩]; rfl
    · rw [if_neg hp, if_neg (fun z => hp z.2.2)]; rfl
  have e : ln1 cA q7 q8 8 (rowf α 8) ++ (baseO cA f a0 q1 q2 q3 q4 q5 q6 q7 q8 q9 q10 q11 q12 q13 q14 q15 q16 q17 q18 q19 q20 ++ acts cA α 8) = wl cA (adY α a0 q1 q2 q3 q4 q5 q6 q7 q8 q9 q10 q11 q12 q13 q14 q15 q16 q17 q18 q19 q20) (sY f) clY2 := by
    rw [er]
    rfl
  rw [e]
  exact clY2_p.map _
theorem y00_all : AllI y00 := by
  refine ⟨⟨⟨⟨List.Pairwise.nil, List.nodup_nil, fun i h => (by cases h), fun i h => (by cases h)⟩, fun i => Nat.zero_le _, rfl, List.nodup_nil, fun t h => (by cases h), fun t h => (by cases h), fun t h => (by cases h), fun t h => (by cases h)⟩, List.Pairwise.nil, fun p h => (by cases h), fun p h => (by cases h), by decide⟩, fun c _ => Or.inl rfl, fun z h => (by cases h), fun t h => (by cases h), fun j => Int32.le_refl 0⟩
theorem y00_R : RRw s00 y00 [] [] := by
  refine ⟨⟨fun s _ => Or.inl rfl, fun i h => (by cases h), fun s t _ _ _ h => absurd rfl h⟩, fun s _ h => absurd rfl h, fun c _ => ⟨show (0 : Int32) = -1 + 1 by decide, rfl, rfl⟩, ⟨rfl, rfl, rfl⟩, ⟨rfl, by decide, fun p x h => (by cases h)⟩, ⟨rfl, by decide, fun p x h => (by cases h)⟩, ⟨rfl, by decide, fun p x h => (by cases h)⟩, List.Perm.refl _, ⟨rfl, by decide, fun p x h => (by cases h)⟩, ⟨rfl, by decide, fun p x h => (by cases h)⟩, ⟨rfl, by decide, fun p x h => (by cases h)⟩, rfl⟩
theorem y00_C {f : Nat → Int32} (hf : ∀ p, p < 48 → f p = -1) : RC (sY f) y00 := by
  refine ⟨[], List.range 8, [], [], [], ⟨⟨rfl, by decide, fun p i h => (by cases h)⟩, ⟨rfl, by decide, fun p i h => ?_⟩, ⟨rfl, by decide, fun p i h => (by cases h)⟩, ⟨rfl, by decide, fun p i h => (by cases h)⟩⟩, ⟨by decide, rfl, fun i h => (by cases h), fun i h => (by cases h)⟩, ⟨rfl, rfl, rfl⟩, fun i h => (by cases h), fun i h => (by cases h), ⟨⟨rfl, by decide, fun p t h => (by cases h)⟩, rfl⟩, ⟨rfl, by decide, fun p t h => (by cases h)⟩, fun k hk c hc => ?_, ⟨rfl, rfl, rfl, rfl⟩, fun i hi => rfl, fun i hi => ⟨0, by decide, rfl, rfl, by decide, fun p m h => (by cases h)⟩⟩
  · have hp : p < 8 := by
      have := (List.getElem?_eq_some_iff.mp h).1
      rwa [List.length_range] at this
    rw [List.getElem?_range hp] at h
    cases h
    refine ⟨?_, hp⟩
    show (if 4 = 4 ∧ 1 = 1 ∧ p < 8 then some (5, p) else none) = some (5, p)
    rw [if_pos ⟨rfl, rfl, hp⟩]
  · rcases (show k = 0 ∨ k = 1 ∨ k = 2 by omega) with rfl | rfl | rfl
    · exact hf c hc
    · rfl
    · rfl
