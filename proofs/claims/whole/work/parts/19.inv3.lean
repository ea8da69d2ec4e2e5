/-! Invariants through an instruction, a turn, a tick -/
theorem Full.del {y : Yd} (h : Full y) {i : Int32} (hi : i ∈ yA y) (s v : Int32) : Full (yDel y i s v) := by
  obtain ⟨q, ku, ka, kd, l0⟩ := h
  refine ⟨q.del hi s v, ?_, ?_, ?_, ?_⟩
  · unfold KU; rw [yK_del]; exact ku
  · unfold KA; rw [yK_del, yA_del]; exact ka
  · unfold KD; rw [yK_del]; exact kd
  · rw [yL_del]; exact l0
theorem Full.end_ {y : Yd} (h : Full y) {i : Int32} (hi : i ∈ yA y) (r : Int32) : Full (yEnd y i r) := by
  obtain ⟨q, ku, ka, kd, l0⟩ := h
  refine ⟨q.end_ hi r, ?_, ?_, ?_, ?_⟩
  · unfold KU; rw [yK_end]; exact ku
  · unfold KA; rw [yK_end, yA_end]; exact ka
  · unfold KD; rw [yK_end]; exact kd
  · rw [yL_end]; exact l0
theorem Full.exit {y : Yd} (h : Full y) {i : Int32} (hi : i ∈ yA y) (s r : Int32) : Full (yExit y i s r) := by
  obtain ⟨q, ku, ka, kd, l0⟩ := h
  refine ⟨q.exit hi s r, ?_, ?_, ?_, ?_⟩
  · unfold KU; rw [yK_exit]; exact ku
  · unfold KA; rw [yK_exit, yA_exit]; exact ka
  · unfold KD; rw [yK_exit]; exact kd
  · rw [yL_exit]; exact l0
theorem Full.fld {y : Yd} (h : Full y) (n : Nat) (i v : Int32) : Full (setF y n i v) := h
theorem Full.trap {y : Yd} (h : Full y) (i : Int32) (v : Bool) : Full (setB y 0 i v) := h
theorem Full.clock {y : Yd} (h : Full y) {i : Int32} (hi : i ∈ yA y) (b v : Int32) (l : Bool) (hl : l = true → yB y 1 i = true ∧ ∀ t ∈ yT y, t.2.2.2 = true → ¬ t.1 = i) : Full (yClock y i b v l) := by
  unfold yClock
  split
  · obtain ⟨⟨q, t, r, e, ow, ml, ids, ea⟩, ku, ka, kd, l0⟩ := h
    refine ⟨⟨q, ?_, r, e, ?_, ml, ids, ea⟩, ku, ka, kd, l0⟩
    · intro k
      show ((yT y ++ [(i, (yN y : Int) + b.toInt, v, l)]).filter (fun t => t.1 == k && t.2.2.2)).length ≤ 1
      rw [List.filter_append, List.length_append]
      have tk := t k
      cases l with
      | false =>
        simp
        simpa using tk
      | true =>
        by_cases e1 : i = k
        · subst e1
          have h0 : (yT y).filter (fun t => t.1 == i && t.2.2.2) = [] := by
            rw [List.filter_eq_nil_iff]
            intro t ht z
            simp at z
            exact (hl rfl).2 t ht z.2 z.1
          rw [h0]
          simp
        · have : ([(i, (yN y : Int) + b.toInt, v, true)].filter (fun t : Int32 × Int × Int32 × Bool => t.1 == k && t.2.2.2)) = [] := by simp [e1]
          rw [this]
          simpa using tk
    · intro t ht
      rcases List.mem_append.mp ht with ht | ht
      · exact ow t ht
      · rw [List.mem_singleton.mp ht]
        exact ⟨hi, fun z => (hl z).1⟩
  · exact h
theorem Full.take {y : Yd} (h : Full y) {i : Int32} (hi : i ∈ yQ y) (a b : Int32) : Full (yTake y i a b) := by
  have hiA := h.1.1.2.2.1 i hi
  have hnw : ¬ yB y 1 i = true := fun z => (h.1.1.2.2.2 i hiA).mp z hi
  have nolim : ∀ t ∈ yT y, t.2.2.2 = true → ¬ t.1 = i := fun t ht z e => hnw (by rw [← e]; exact (h.1.2.2.2.2.1 t ht).2 z)
  unfold yTake
  cases hm : mbx y i with
  | cons m ms =>
    obtain ⟨⟨q, t, r, e, ow, ml, ids, ea⟩, ku, ka, kd, l0⟩ := h
    refine ⟨⟨q, t, ?_, e, ow, fun p hp => ml p (List.mem_of_mem_eraseP hp), ids, ea⟩, ku, ka, kd, l0⟩
    show ((yM y).eraseP (fun m => m.1 == i)).length + (yK y).length + (yR y + 1) = 24
    have hmem : m ∈ (yM y).filter (fun m => m.1 == i) := by
      have : (yM y).filter (fun m => m.1 == i) = m :: ms := hm
      rw [this]
      exact List.mem_cons_self
    obtain ⟨h1, h2⟩ := List.mem_filter.mp hmem
    have := List.length_eraseP_of_mem (p := fun m => m.1 == i) h1 h2
    have h3 : 0 < (yM y).length := List.length_pos_of_mem h1
    unfold InvR at r
    omega
  | nil =>
    have f1 : Full (vQ (setB (setF y 3 i (yF y 3 i - 1)) 1 i true) ((yQ y).erase i)) := by
      obtain ⟨⟨⟨q1, q2, q3, q4⟩, t, r, e, ow, ml, ids, ea⟩, ku, ka, kd, l0⟩ := h
      refine ⟨⟨⟨q1, q2.erase i, fun k hk => q3 k (List.mem_of_mem_erase hk), ?_⟩, t, r, e, ?_, ml, ids, ea⟩, ku, ka, kd, l0⟩
      · intro k hk
        show up2 (yB y) 1 i true 1 k = true ↔ ¬ k ∈ (yQ y).erase i
        rw [up2_same, q2.mem_erase_iff]
        by_cases e1 : k = i
        · rw [if_pos e1]
          exact ⟨fun _ z => z.1 e1, fun _ => rfl⟩
        · rw [if_neg e1, q4 k hk]
          exact ⟨fun z w => z w.2, fun z w => z ⟨e1, w⟩⟩
      · intro p hp
        refine ⟨(ow p hp).1, fun z => ?_⟩
        show up2 (yB y) 1 i true 1 p.1 = true
        rw [up2_same]
        split
        · rfl
        · exact (ow p hp).2 z
    show Full (if 1 ≤ b then _ else _)
    split
    · refine f1.clock hiA b 0 true (fun _ => ⟨?_, nolim⟩)
      show up2 (yB y) 1 i true 1 i = true
      rw [up2_s]
    · exact f1
theorem Full.link {y : Yd} (h : Full y) {i : Int32} (hi : i ∈ yA y) (a : Int32) : Full (yLink y i a) := by
  unfold yLink
  split
  · exact h.exit hi _ _
  · split
    · exact h
    · split
      · exact h
      · rename_i h1 h2 h3
        have h1 : yF y (rg a) i ∈ yA y := Decidable.not_not.mp h1
        obtain ⟨⟨q, t, r, e, ow, ml, ids, ea⟩, ku, ka, kd, l0⟩ := h
        refine ⟨⟨q, t, ?_, e, ow, ml, ids, ea⟩, ?_, ?_, ?_, l0⟩
        · show (yM y).length + (yK y ++ [(i, yF y (rg a) i)]).length + (yR y - 1) = 24
          unfold InvR at r
          simp
          omega
        · show (yK y ++ [(i, yF y (rg a) i)]).Pairwise (fun p q => isK p.1 p.2 q = false)
          rw [List.pairwise_append]
          refine ⟨ku, by simp, fun p hp b hb => ?_⟩
          rw [List.mem_singleton.mp hb]
          cases hk : isK p.1 p.2 (i, yF y (rg a) i) with
          | false => rfl
          | true =>
            exact absurd (Or.inr (List.any_eq_true.mpr ⟨p, hp, isK_tr hk (isK_self p)⟩)) h2
        · intro p hp
          rcases List.mem_append.mp hp with hp | hp
          · exact ka p hp
          · rw [List.mem_singleton.mp hp]
            exact ⟨hi, h1⟩
        · intro p hp
          rcases List.mem_append.mp hp with hp | hp
          · exact kd p hp
          · rw [List.mem_singleton.mp hp]
            exact fun z => h2 (Or.inl z.symm)
theorem Full.spawn {y : Yd} (h : Full y) (hL : (yL y).toInt < 2147483647) (i a b ov : Int32) : Full (ySpawn y i a b ov) := by
  have hb := h.begin hL b (yF y (rg a) i) ov
  unfold ySpawn
  cases hc : yBegin y b (yF y (rg a) i) ov with
  | mk z o =>
    rw [hc] at hb
    cases o with
    | none => exact hb
    | some k => exact hb
theorem act_cases {P : Yd → Prop} (y : Yd) (i op a b : Int32) (c0 : P (setF y (rg a) i b)) (c1 : P (setF y (rg a) i (yF y (rg a) i + yF y (rg b) i))) (c2 : P ((if yF y (rg a) i < yF y (rg b) i then setF y 3 i (yF y 3 i + 1) else y))) (c3 : P (setF y 3 i b)) (c4 : P ((if yF y (rg a) i ∈ yA y then yDel y (yF y (rg a) i) i (yF y (rg b) i) else y))) (c5 : P (yTake y i a b)) (c6 : P (ySpawn y i a b 0)) (c7 : P (ySpawn y i a b i)) (c8 : P (yLink y i a)) (c9 : P (setB y 0 i (decide (b ≠ 0)))) (c10 : P (yEnd y i (yF y (rg a) i))) (c11 : P (yPut y (yF y (rg a) i) i)) (c12 : P (setF y (rg a) i i)) (c13 : P (yClock y i b (yF y (rg a) i) false)) : P (yAct y i op a b) := by
  unfold yAct
  by_cases h0 : op = 0
  · rw [if_pos h0]; exact c0
  rw [if_neg h0]
  by_cases h1 : op = 1
  · rw [if_pos h1]; exact c1
  rw [if_neg h1]
  by_cases h2 : op = 2
  · rw [if_pos h2]; exact c2
  rw [if_neg h2]
  by_cases h3 : op = 3
  · rw [if_pos h3]; exact c3
  rw [if_neg h3]
  by_cases h4 : op = 4
  · rw [if_pos h4]; exact c4
  rw [if_neg h4]
  by_cases h5 : op = 5
  · rw [if_pos h5]; exact c5
  rw [if_neg h5]
  by_cases h6 : op = 6
  · rw [if_pos h6]; exact c6
  rw [if_neg h6]
  by_cases h7 : op = 7
  · rw [if_pos h7]; exact c7
  rw [if_neg h7]
  by_cases h8 : op = 8
  · rw [if_pos h8]; exact c8
  rw [if_neg h8]
  by_cases h9 : op = 9
  · rw [if_pos h9]; exact c9
  rw [if_neg h9]
  by_cases h10 : op = 10
  · rw [if_pos h10]; exact c10
  rw [if_neg h10]
  by_cases h11 : op = 11
  · rw [if_pos h11]; exact c11
  rw [if_neg h11]
  by_cases h12 : op = 12
  · rw [if_pos h12]; exact c12
  rw [if_neg h12]
  exact c13
theorem Full.act {y : Yd} (h : Full y) (hL : (yL y).toInt < 2147483647) {i : Int32} (hi : i ∈ yQ y) (op a b : Int32) : Full (yAct y i op a b) := by
  have hiA := h.1.1.2.2.1 i hi
  refine act_cases y i op a b (h.fld _ _ _) (h.fld _ _ _) ?_ (h.fld _ _ _) ?_ (h.take hi a b) (h.spawn hL i a b 0) (h.spawn hL i a b i) (h.link hiA a) (h.trap _ _) (h.end_ hiA _) ?_ (h.fld _ _ _) (h.clock hiA b _ false (fun z => absurd z (by decide)))
  · split
    · exact h.fld _ _ _
    · exact h
  · split
    · rename_i hm
      exact h.del hm _ _
    · exact h
  · unfold yPut
    split
    · exact h
    · exact h
theorem Full.perf {y : Yd} (h : Full y) (hL : (yL y).toInt < 2147483647) {i : Int32} (hi : i ∈ yQ y) : Full (yPerf y i) := by
  unfold yPerf
  split
  · exact (h.fld 3 i _).act hL hi _ _ _
  · exact h.end_ (h.1.1.2.2.1 i hi) _
theorem yL_act (y : Yd) (i op a b : Int32) : yL (yAct y i op a b) = yL y ∨ yL (yAct y i op a b) = yL y + 1 := by
  have sp : ∀ ov, yL (ySpawn y i a b ov) = yL y ∨ yL (ySpawn y i a b ov) = yL y + 1 := fun ov => by
    have := yL_begin y b (yF y (rg a) i) ov
    unfold ySpawn
    cases hc : yBegin y b (yF y (rg a) i) ov with
    | mk z o =>
      rw [hc] at this
      cases o <;> exact this
  refine act_cases (P := fun z => yL z = yL y ∨ yL z = yL y + 1) y i op a b (Or.inl rfl) (Or.inl rfl) ?_ (Or.inl rfl) ?_ ?_ (sp 0) (sp i) ?_ (Or.inl rfl) (Or.inl (yL_end _ _ _)) ?_ (Or.inl rfl) ?_
  · split <;> exact Or.inl rfl
  · split
    · exact Or.inl (yL_del _ _ _ _)
    · exact Or.inl rfl
  · refine Or.inl ?_
    unfold yTake
    split
    · rfl
    · split
      · unfold yClock
        split <;> rfl
      · rfl
  · refine Or.inl ?_
    unfold yLink
    split
    · exact yL_exit _ _ _ _
    · split
      · rfl
      · split <;> rfl
  · refine Or.inl ?_
    unfold yPut
    split <;> rfl
  · refine Or.inl ?_
    unfold yClock
    split <;> rfl
theorem yN_act (y : Yd) (i op a b : Int32) : yN (yAct y i op a b) = yN y := by
  have sp : ∀ ov, yN (ySpawn y i a b ov) = yN y := fun ov => by
    have : yN (yBegin y b (yF y (rg a) i) ov).1 = yN y := by
      unfold yBegin
      split
      · exact yN_new _ _ _ _
      · rfl
    unfold ySpawn
    cases hc : yBegin y b (yF y (rg a) i) ov with
    | mk z o =>
      rw [hc] at this
      cases o <;> exact this
  refine act_cases (P := fun z => yN z = yN y) y i op a b rfl rfl ?_ rfl ?_ ?_ (sp 0) (sp i) ?_ rfl (yN_end _ _ _) ?_ rfl ?_
  · split <;> rfl
  · split
    · exact yN_del _ _ _ _
    · rfl
  · unfold yTake
    split
    · rfl
    · split
      · unfold yClock
        split <;> rfl
      · rfl
  · unfold yLink
    split
    · exact yN_exit _ _ _ _
    · split
      · rfl
      · split <;> rfl
  · unfold yPut
    split <;> rfl
  · unfold yClock
    split <;> rfl
theorem yL_perf (y : Yd) (i : Int32) : yL (yPerf y i) = yL y ∨ yL (yPerf y i) = yL y + 1 := by
  unfold yPerf
  split
  · exact yL_act (setF y 3 i _) i _ _ _
  · exact Or.inl (yL_end _ _ _)
theorem yN_perf (y : Yd) (i : Int32) : yN (yPerf y i) = yN y := by
  unfold yPerf
  split
  · exact yN_act (setF y 3 i _) i _ _ _
  · exact yN_end _ _ _
theorem Full.turn {y : Yd} (h : Full y) (i : Int32) : Full (yTurn y i) := by
  unfold yTurn
  split
  · rename_i hc
    have hi : i ∈ yQ y := List.mem_of_mem_head? (by rw [hc.1]; rfl)
    obtain ⟨⟨⟨q1, q2, q3, q4⟩, t, r, e, ow, ml, ids, ea⟩, ku, ka, kd, l0⟩ := h
    have hiA := q3 i hi
    have hnw : ¬ yB y 1 i = true := fun z => (q4 i hiA).mp z hi
    refine ⟨⟨⟨q1, ?_, ?_, ?_⟩, t, r, e, ?_, ml, ids, ea⟩, ku, ka, kd, l0⟩
    · show ((yQ y).erase i ++ [i]).Nodup
      rw [List.nodup_append]
      exact ⟨q2.erase i, by simp, fun a ha b hb z => (q2.mem_erase_iff.mp ha).1 (z.trans (List.mem_singleton.mp hb))⟩
    · intro k hk
      rcases List.mem_append.mp hk with hk | hk
      · exact q3 k (List.mem_of_mem_erase hk)
      · rw [List.mem_singleton.mp hk]
        exact hiA
    · intro k hk
      show up2 (yB y) 1 i false 1 k = true ↔ ¬ k ∈ (yQ y).erase i ++ [i]
      rw [up2_same]
      by_cases e1 : k = i
      · subst e1
        simp
      · rw [if_neg e1, q4 k hk, List.mem_append, q2.mem_erase_iff, List.mem_singleton]
        exact ⟨fun z w => w.elim (fun w => z w.2) e1, fun z w => z (Or.inl ⟨e1, w⟩)⟩
    · intro p hp
      refine ⟨(ow p hp).1, fun z => ?_⟩
      show up2 (yB y) 1 i false 1 p.1 = true
      rw [up2_same, if_neg (fun e2 => hnw (by rw [← e2]; exact (ow p hp).2 z))]
      exact (ow p hp).2 z
  · exact h
