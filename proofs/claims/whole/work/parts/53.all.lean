/-! All that holds between calls, and that calls keep it -/
def AllI (y : Yd) : Prop := Full y ∧ CodeOk y ∧ TU y ∧ TmI y ∧ OvI y
theorem AllI.step {y : Yd} (a : AllI y) (hL : (yL y).toInt + 1002 < 2147483647) : AllI (yStep y).1 ∧ yN (yStep y).1 = yN y ∧ (yL (yStep y).1).toInt ≤ (yL y).toInt + 1001 := by
  obtain ⟨q, c, t, m, o⟩ := a
  obtain ⟨f1, f2, f3, f4⟩ := step_full q c hL
  obtain ⟨g1, g2, g3⟩ := step_more q c hL t m o
  exact ⟨⟨f1, f2, g1, g2, g3⟩, f3, f4⟩
theorem AllI.run : ∀ (n : Nat) {y : Yd} (k : Int32), AllI y → (yL y).toInt + 1001 * n + 1002 < 2147483647 → AllI (yRun n y k).1 ∧ yN (yRun n y k).1 = yN y ∧ (yL (yRun n y k).1).toInt ≤ (yL y).toInt + 1001 * n
  | 0, y, k, a, _ => ⟨a, rfl, by show (yL y).toInt ≤ _; omega⟩
  | n + 1, y, k, a, hL => by
    obtain ⟨s1, s2, s3⟩ := a.step (by omega)
    unfold yRun
    split
    · exact ⟨s1, s2, by show (yL (yStep y).1).toInt ≤ _; omega⟩
    · obtain ⟨r1, r2, r3⟩ := AllI.run n (y := (yStep y).1) (k + 1) s1 (by omega)
      exact ⟨r1, r2.trans s2, by omega⟩
theorem AllI.spawn {y : Yd} (a : AllI y) (hL : (yL y).toInt < 2147483647) (et ar : Int32) : AllI (ySpawnP y et ar).1 ∧ yN (ySpawnP y et ar).1 = yN y ∧ (yL (ySpawnP y et ar).1).toInt ≤ (yL y).toInt + 1 := by
  unfold ySpawnP
  split
  · split
    · obtain ⟨q, c, t, m, o⟩ := a
      have st : StR (yL y) y (yNew y et ar 0) := StR.new y et ar (fun _ => q.2.2.2.2)
      have hl : yL y ≤ yL (yNew y et ar 0) := by rw [yL_new]; exact Int32.le_of_lt (l_lt hL)
      refine ⟨⟨q.new hL et ar 0, ?_, t.st st, m.st st, o.st st hl⟩, yN_new _ _ _ _, ?_⟩
      · show ∀ c, c < 48 → yC (yNew y et ar 0) 0 c = -1 ∨ _
        rw [yC_new]; exact c
      · show (yL (yNew y et ar 0)).toInt ≤ _
        rw [yL_new, toInt_succ hL]; omega
    · exact ⟨a, rfl, by show (yL y).toInt ≤ _; omega⟩
  · exact ⟨a, rfl, by show (yL y).toInt ≤ _; omega⟩
theorem AllI.inject {y : Yd} (a : AllI y) (d v : Int32) : AllI (yInject y d v).1 ∧ yN (yInject y d v).1 = yN y ∧ yL (yInject y d v).1 = yL y := by
  unfold yInject
  split
  · rename_i hd
    split
    · exact ⟨a, rfl, rfl⟩
    · obtain ⟨q, c, t, m, o⟩ := a
      have st : StR (yL y) y (yDel y d 0 v) := StR.del y d 0 v
      refine ⟨⟨q.del hd 0 v, ?_, t.st st, m.st st, o.st st (by rw [yL_del]; exact Int32.le_refl _)⟩, yN_del _ _ _ _, yL_del _ _ _ _⟩
      show ∀ c, c < 48 → yC (yDel y d 0 v) 0 c = -1 ∨ _
      rw [yC_del]; exact c
  · exact ⟨a, rfl, rfl⟩
theorem AllI.load {y : Yd} (a : AllI y) {c op x b : Int32} (h : 0 ≤ c ∧ c < 48 ∧ insOk op x b) : AllI (yLoad y c op x b) := by
  obtain ⟨q, cc, t, m, o⟩ := a
  refine ⟨q, ?_, t, m, o⟩
  intro k hk
  unfold yLoad
  rw [yCvC]
  by_cases hz : k = c.toNatClampNeg
  · refine Or.inr ?_
    simp only [if_pos hz]
    exact h.2.2
  · simp only [if_neg hz]
    exact cc k hk
/-- while a tick runs: no timer is past its end -/
def TmW (y : Yd) : Prop := ∀ t ∈ yT y, (yN y : Int) ≤ t.2.1 ∧ t.2.1 ≤ (yN y : Int) + 2147483647
theorem TmW.st {M : Int32} {y y' : Yd} (h : TmW y) (s : StR M y y') : TmW y' := fun t ht => by
  rw [s.2.2.2.1]
  rcases s.2.2.2.2.1 t ht with q | q
  · exact h t q
  · exact ⟨by omega, q.2⟩
theorem ring_st {M : Int32} (y : Yd) (n : Nat) (t : Int32 × Int × Int32 × Bool) : StR M y (yRing (vT y ((yT y).eraseIdx n)) t) := by
  have h1 : StR M y (vT y ((yT y).eraseIdx n)) := ⟨fun z => Or.inl rfl, fun z hz => Or.inl hz, fun j hj _ _ => hj, rfl, fun t ht => Or.inl (List.mem_of_mem_eraseIdx ht), fun h => h⟩
  refine h1.tr ?_
  unfold yRing
  split
  · exact (StR.fld _ (n := 3) (by decide) (by decide) t.1 _).tr (StR.ready _ t.1)
  · exact StR.del _ _ _ _
theorem ring_T (y : Yd) {n : Nat} (hn : n < (yT y).length) (t : Int32 × Int × Int32 × Bool) : (yT (yRing (vT y ((yT y).eraseIdx n)) t)).length + 1 ≤ (yT y).length := by
  have h1 := List.length_eraseIdx_of_lt hn
  unfold yRing
  split
  · show ((yT y).eraseIdx n).length + 1 ≤ _
    omega
  · unfold yDel
    split
    · show ((yT y).eraseIdx n).length + 1 ≤ _
      omega
    · split
      · show (((yT y).eraseIdx n).filter _).length + 1 ≤ _
        have := List.length_filter_le (fun p : Int32 × Int × Int32 × Bool => !(p.1 == t.1 && p.2.2.2)) ((yT y).eraseIdx n)
        omega
      · show ((yT y).eraseIdx n).length + 1 ≤ _
        omega
theorem ring_o (y : Yd) (n : Nat) (t : Int32 × Int × Int32 × Bool) : yC (yRing (vT y ((yT y).eraseIdx n)) t) = yC y ∧ yL (yRing (vT y ((yT y).eraseIdx n)) t) = yL y ∧ yE (yRing (vT y ((yT y).eraseIdx n)) t) = yE y := by
  unfold yRing
  split
  · exact ⟨rfl, rfl, rfl⟩
  · exact ⟨yC_del _ _ _ _, yL_del _ _ _ _, yE_del _ _ _ _⟩
def AllW (y : Yd) : Prop := Full y ∧ CodeOk y ∧ TU y ∧ TmW y ∧ OvI y
theorem AllW.ring {y : Yd} (a : AllW y) {n : Nat} {t : Int32 × Int × Int32 × Bool} (ht : (yT y)[n]? = some t) : AllW (yRing (vT y ((yT y).eraseIdx n)) t) := by
  obtain ⟨q, c, tu, m, o⟩ := a
  have st : StR (yL y) y (yRing (vT y ((yT y).eraseIdx n)) t) := ring_st y n t
  obtain ⟨o1, o2, o3⟩ := ring_o y n t
  refine ⟨q.ring ht, ?_, tu.st st, m.st st, o.st st (by rw [o2]; exact Int32.le_refl _)⟩
  unfold CodeOk
  rw [o1]; exact c
theorem AllW.ticks : ∀ (m : Nat) {y : Yd} (k : Int32), AllW y → (yT y).length ≤ m → AllI (yTicks m y k).1 ∧ yN (yTicks m y k).1 = yN y ∧ yL (yTicks m y k).1 = yL y ∧ yE (yTicks m y k).1 = yE y
  | 0, y, k, a, hm => by
    have hnil : yT y = [] := List.eq_nil_of_length_eq_zero (Nat.le_zero.mp hm)
    exact ⟨⟨a.1, a.2.1, a.2.2.1, fun t ht => (by have ht : t ∈ yT y := ht; rw [hnil] at ht; cases ht), a.2.2.2.2⟩, rfl, rfl, rfl⟩
  | m + 1, y, k, a, hm => by
    unfold yTicks
    obtain ⟨f1, f2⟩ := find_idx (fun t : Int32 × Int × Int32 × Bool => t.2.1 == (yN y : Int)) (yT y)
    cases hf : (yT y).findIdx? (fun t : Int32 × Int × Int32 × Bool => t.2.1 == (yN y : Int)) with
    | none =>
      have hn := f1 hf
      rw [hn]
      refine ⟨⟨a.1, a.2.1, a.2.2.1, fun t ht => ?_, a.2.2.2.2⟩, rfl, rfl, rfl⟩
      have ht : t ∈ yT y := ht
      have h1 := a.2.2.2.1 t ht
      have h2 := List.find?_eq_none.mp hn t ht
      have h3 : ¬ t.2.1 = (yN y : Int) := by simpa using h2
      exact ⟨by show (yN y : Int) < _; omega, h1.2⟩
    | some n =>
      obtain ⟨t, g1, g2, g3⟩ := f2 n hf
      rw [g2, g3]
      have hlt : n < (yT y).length := (List.getElem?_eq_some_iff.mp g1).1
      have hr := ring_T y hlt t
      obtain ⟨r1, r2, r3, r4⟩ := AllW.ticks m (k + 1) (a.ring g1) (by omega)
      obtain ⟨o1, o2, o3⟩ := ring_o y n t
      have st : StR (yL y) y (yRing (vT y ((yT y).eraseIdx n)) t) := ring_st y n t
      exact ⟨r1, r2.trans st.2.2.2.1, r3.trans o2, r4.trans o3⟩
theorem AllI.now {y : Yd} (a : AllI y) : AllW (vN y (yN y + 1)) := by
  obtain ⟨q, c, t, m, o⟩ := a
  refine ⟨q, c, t, fun t ht => ?_, o⟩
  have := m t ht
  show ((yN y + 1 : Nat) : Int) ≤ t.2.1 ∧ t.2.1 ≤ ((yN y + 1 : Nat) : Int) + 2147483647
  omega
