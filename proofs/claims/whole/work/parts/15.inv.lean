/-! What holds of a yard throughout -/
def InvY (y : Yd) : Prop :=
  InvQ y ∧ InvT y ∧ InvR y ∧ InvE y ∧ (∀ t ∈ yT y, t.1 ∈ yA y ∧ (t.2.2.2 = true → yB y 1 t.1 = true)) ∧ (∀ m ∈ yM y, m.1 ∈ yA y) ∧ (∀ i ∈ yA y, 0 < i ∧ i ≤ yL y) ∧ ∀ e ∈ yE y, e.1 ∈ yA y
theorem up2_same {α : Type} (f : Nat → Int32 → α) (n : Nat) (k j : Int32) (v : α) : up2 f n k v n j = if j = k then v else f n j := by simp [up2]
theorem flt_le {α : Type} (p q : α → Bool) (l : List α) : ((l.filter p).filter q).length ≤ (l.filter q).length := by
  have e : (l.filter p).filter q = (l.filter q).filter p := by
    rw [List.filter_filter, List.filter_filter]
    exact List.filter_congr (fun a _ => Bool.and_comm _ _)
  rw [e]
  exact List.length_filter_le _ _
theorem flt_split {α : Type} (p : α → Bool) : ∀ l : List α, (l.filter (fun a => !p a)).length + (l.filter p).length = l.length
  | [] => rfl
  | a :: l => by
    have ih := flt_split p l
    by_cases h : p a = true
    · rw [List.filter_cons_of_neg (by simp [h]), List.filter_cons_of_pos h]
      simp
      omega
    · rw [List.filter_cons_of_pos (by simp [h]), List.filter_cons_of_neg h]
      simp
      omega
/-- one who waits no more -/
theorem InvY.ready {y : Yd} (h : InvY y) {i : Int32} (hi : i ∈ yA y) (hq : ¬ i ∈ yQ y) : InvY (yReady (yDrop y i) i) := by
  obtain ⟨⟨q1, q2, q3, q4⟩, t, r, e, ow, ml, ids, ea⟩ := h
  refine ⟨⟨q1, ?_, ?_, ?_⟩, ?_, r, e, ?_, ml, ids, ea⟩
  · show (yQ y ++ [i]).Nodup
    rw [List.nodup_append]
    exact ⟨q2, by simp, fun a ha b hb z => hq (by rw [← List.mem_singleton.mp hb, ← z]; exact ha)⟩
  · intro k hk
    rcases List.mem_append.mp hk with hk | hk
    · exact q3 k hk
    · rw [List.mem_singleton.mp hk]
      exact hi
  · intro k hk
    show up2 (yB y) 1 i false 1 k = true ↔ ¬ k ∈ yQ y ++ [i]
    rw [up2_same]
    by_cases e : k = i
    · subst e
      simp
    · rw [if_neg e, q4 k hk]
      simp [e]
  · intro k
    show (((yT y).filter (fun t => !(t.1 == i && t.2.2.2))).filter (fun t => t.1 == k && t.2.2.2)).length ≤ 1
    exact Nat.le_trans (flt_le _ _ _) (t k)
  · intro k hk
    have hk2 := List.mem_filter.mp hk
    refine ⟨(ow k hk2.1).1, fun z => ?_⟩
    show up2 (yB y) 1 i false 1 k.1 = true
    rw [up2_same, if_neg (fun e => by have := hk2.2; simp [e, z] at this)]
    exact (ow k hk2.1).2 z
theorem InvY.del {y : Yd} (h : InvY y) {i : Int32} (hi : i ∈ yA y) (s v : Int32) : InvY (yDel y i s v) := by
  unfold yDel
  by_cases h0 : yR y = 0
  · rw [if_pos h0]
    exact h
  · rw [if_neg h0]
    have h1 : InvY (vM (vR y (yR y - 1)) (yM y ++ [(i, s, v)])) := by
      obtain ⟨q, t, r, e, ow, ml, ids, ea⟩ := h
      refine ⟨q, t, ?_, e, ow, ?_, ids, ea⟩
      · show (yM y ++ [(i, s, v)]).length + (yK y).length + (yR y - 1) = 24
        unfold InvR at r
        simp
        omega
      · intro m hm
        rcases List.mem_append.mp hm with hm | hm
        · exact ml m hm
        · rw [List.mem_singleton.mp hm]
          exact hi
    by_cases hb : yB y 1 i = true
    · rw [if_pos hb]
      exact h1.ready hi ((h.1.2.2.2 i hi).mp hb)
    · rw [if_neg hb]
      exact h1
theorem InvY.end_ {y : Yd} (h : InvY y) {i : Int32} (hi : i ∈ yA y) (r : Int32) : InvY (yEnd y i r) := by
  unfold yEnd
  by_cases ha : (yE y).any (fun e => e.1 == i) = true
  · rw [if_pos ha]
    exact h
  · rw [if_neg ha]
    obtain ⟨q, t, rr, e, ow, ml, ids, ea⟩ := h
    refine ⟨q, t, rr, ?_, ow, ml, ids, ?_⟩
    · show ((yE y ++ [(i, r)]).map (fun e => e.1)).Nodup
      rw [List.map_append, List.nodup_append]
      refine ⟨e, by simp, fun a h1 b h2 z => ha ?_⟩
      obtain ⟨p, hp, rfl⟩ := List.mem_map.mp h1
      rw [List.any_eq_true]
      refine ⟨p, hp, ?_⟩
      simp at h2
      rw [z, h2]
      simp
    · intro p hp
      rcases List.mem_append.mp hp with hp | hp
      · exact ea p hp
      · rw [List.mem_singleton.mp hp]
        exact hi
theorem InvY.exit {y : Yd} (h : InvY y) {i : Int32} (hi : i ∈ yA y) (s r : Int32) : InvY (yExit y i s r) := by
  unfold yExit
  by_cases hb : yB y 0 i = true
  · rw [if_pos hb]
    exact h.del hi s r
  · rw [if_neg hb]
    by_cases hr : r = 0
    · rw [if_pos hr]
      exact h
    · rw [if_neg hr]
      exact h.end_ hi r
/-! what deliveries, endings and exits leave as it was -/
theorem yK_del (y : Yd) (i s v : Int32) : yK (yDel y i s v) = yK y := by
  unfold yDel
  split
  · rfl
  · split <;> rfl
theorem yA_del (y : Yd) (i s v : Int32) : yA (yDel y i s v) = yA y := by
  unfold yDel
  split
  · rfl
  · split <;> rfl
theorem yL_del (y : Yd) (i s v : Int32) : yL (yDel y i s v) = yL y := by
  unfold yDel
  split
  · rfl
  · split <;> rfl
theorem yN_del (y : Yd) (i s v : Int32) : yN (yDel y i s v) = yN y := by
  unfold yDel
  split
  · rfl
  · split <;> rfl
theorem yH_del (y : Yd) (i s v : Int32) : yH (yDel y i s v) = yH y := by
  unfold yDel
  split
  · rfl
  · split <;> rfl
theorem yC_del (y : Yd) (i s v : Int32) : yC (yDel y i s v) = yC y := by
  unfold yDel
  split
  · rfl
  · split <;> rfl
theorem yF_del (y : Yd) (i s v : Int32) {n : Nat} (hn : ¬ n = 4) (x : Int32) : yF (yDel y i s v) n x = yF y n x := by
  unfold yDel
  split
  · rfl
  · split
    · show up2 (yF y) 4 i 0 n x = _
      simp [up2, hn]
    · rfl
theorem yK_end (y : Yd) (i r : Int32) : yK (yEnd y i r) = yK y := by unfold yEnd; split <;> rfl
theorem yA_end (y : Yd) (i r : Int32) : yA (yEnd y i r) = yA y := by unfold yEnd; split <;> rfl
theorem yL_end (y : Yd) (i r : Int32) : yL (yEnd y i r) = yL y := by unfold yEnd; split <;> rfl
theorem yN_end (y : Yd) (i r : Int32) : yN (yEnd y i r) = yN y := by unfold yEnd; split <;> rfl
theorem yH_end (y : Yd) (i r : Int32) : yH (yEnd y i r) = yH y := by unfold yEnd; split <;> rfl
theorem yC_end (y : Yd) (i r : Int32) : yC (yEnd y i r) = yC y := by unfold yEnd; split <;> rfl
theorem yF_end (y : Yd) (i r : Int32) : yF (yEnd y i r) = yF y := by unfold yEnd; split <;> rfl
theorem yK_exit (y : Yd) (i s r : Int32) : yK (yExit y i s r) = yK y := by
  unfold yExit
  split
  · exact yK_del y i s r
  · split
    · rfl
    · exact yK_end y i r
theorem yA_exit (y : Yd) (i s r : Int32) : yA (yExit y i s r) = yA y := by
  unfold yExit
  split
  · exact yA_del y i s r
  · split
    · rfl
    · exact yA_end y i r
theorem yL_exit (y : Yd) (i s r : Int32) : yL (yExit y i s r) = yL y := by
  unfold yExit
  split
  · exact yL_del y i s r
  · split
    · rfl
    · exact yL_end y i r
theorem yN_exit (y : Yd) (i s r : Int32) : yN (yExit y i s r) = yN y := by
  unfold yExit
  split
  · exact yN_del y i s r
  · split
    · rfl
    · exact yN_end y i r
theorem yH_exit (y : Yd) (i s r : Int32) : yH (yExit y i s r) = yH y := by
  unfold yExit
  split
  · exact yH_del y i s r
  · split
    · rfl
    · exact yH_end y i r
theorem yC_exit (y : Yd) (i s r : Int32) : yC (yExit y i s r) = yC y := by
  unfold yExit
  split
  · exact yC_del y i s r
  · split
    · rfl
    · exact yC_end y i r
theorem yF_exit (y : Yd) (i s r : Int32) {n : Nat} (hn : ¬ n = 4) (x : Int32) : yF (yExit y i s r) n x = yF y n x := by
  unfold yExit
  split
  · exact yF_del y i s r hn x
  · split
    · rfl
    · rw [yF_end]
/-- links: pairs of two, each once -/
def KU (y : Yd) : Prop := (yK y).Pairwise (fun p q => isK p.1 p.2 q = false)
def KA (y : Yd) : Prop := ∀ p ∈ yK y, p.1 ∈ yA y ∧ p.2 ∈ yA y
theorem isK_self (p : Int32 × Int32) : isK p.1 p.2 p = true := by simp [isK]
theorem isK_tr {a b : Int32} {p q : Int32 × Int32} (h1 : isK a b p = true) (h2 : isK a b q = true) : isK p.1 p.2 q = true := by
  rw [isK_iff] at *
  rcases h1 with ⟨e1, e2⟩ | ⟨e1, e2⟩ <;> rcases h2 with ⟨e3, e4⟩ | ⟨e3, e4⟩
  · exact Or.inl ⟨e3.trans e1.symm, e4.trans e2.symm⟩
  · exact Or.inr ⟨e3.trans e2.symm, e4.trans e1.symm⟩
  · exact Or.inr ⟨e3.trans e2.symm, e4.trans e1.symm⟩
  · exact Or.inl ⟨e3.trans e1.symm, e4.trans e2.symm⟩
theorem any_eraseP_same {l : List (Int32 × Int32)} (h : l.Pairwise (fun p q => isK p.1 p.2 q = false)) (a b : Int32) : (l.eraseP (isK a b)).any (isK a b) = false := by
  induction l with
  | nil => rfl
  | cons p l ih =>
    rw [List.pairwise_cons] at h
    by_cases hp : isK a b p = true
    · rw [List.eraseP_cons_of_pos hp]
      cases hb : l.any (isK a b) with
      | false => rfl
      | true =>
        obtain ⟨q, hq, hk⟩ := List.any_eq_true.mp hb
        have := h.1 q hq
        rw [isK_tr hp hk] at this
        exact absurd this (by decide)
    · rw [List.eraseP_cons_of_neg hp, List.any_cons, ih h.2]
      simpa using hp
/-- a link that is dropped -/
def yCut (y : Yd) (z x : Int32) : Yd := vR (vK y ((yK y).eraseP (isK z x))) (yR y + 1)
theorem InvY.cut {y : Yd} (h : InvY y) {z x : Int32} (hl : lkd y z x = true) : InvY (yCut y z x) := by
  obtain ⟨q, t, r, e, ow, ml, ids, ea⟩ := h
  refine ⟨q, t, ?_, e, ow, ml, ids, ea⟩
  show (yM y).length + ((yK y).eraseP (isK z x)).length + (yR y + 1) = 24
  unfold InvR at r
  obtain ⟨p, hp, hk⟩ := List.any_eq_true.mp hl
  have h1 := List.length_eraseP_of_mem hp hk
  have h2 : 0 < (yK y).length := List.length_pos_of_mem hp
  omega
theorem KU.cut {y : Yd} (h : KU y) (z x : Int32) : KU (yCut y z x) := h.sublist (List.eraseP_sublist)
theorem InvY.bury {y : Yd} (h : InvY y) {x r : Int32} {l : List (Int32 × Int32)} (he : yE y = (x, r) :: l) : InvY (yBury y x) := by
  obtain ⟨⟨q1, q2, q3, q4⟩, t, rr, e, ow, ml, ids, ea⟩ := h
  have nd := pw_nd q1
  have mem : ∀ {k : Int32}, k ∈ yA y → ¬ k = x → k ∈ (yA y).erase x := fun h1 h2 => nd.mem_erase_iff.mpr ⟨h2, h1⟩
  have hd : ∀ p ∈ l, ¬ p.1 = x := by
    unfold InvE at e
    rw [he, List.map_cons, List.nodup_cons] at e
    intro p hp z
    exact e.1 (List.mem_map.mpr ⟨p, hp, z⟩)
  refine ⟨⟨q1.sublist List.erase_sublist, q2.erase x, ?_, ?_⟩, ?_, ?_, ?_, ?_, ?_, ?_, ?_⟩
  · intro k hk
    have hk2 := q2.mem_erase_iff.mp hk
    exact mem (q3 k hk2.2) hk2.1
  · intro k hk
    have hk2 := nd.mem_erase_iff.mp hk
    show yB y 1 k = true ↔ ¬ k ∈ (yQ y).erase x
    rw [q4 k hk2.2, q2.mem_erase_iff]
    exact ⟨fun z w => z w.2, fun z w => z ⟨hk2.1, w⟩⟩
  · exact fun k => Nat.le_trans (flt_le _ _ _) (t k)
  · show ((yM y).filter (fun m => !(m.1 == x))).length + (yK y).length + (yR y + (mbx y x).length) = 24
    have := flt_split (fun m : Int32 × Int32 × Int32 => m.1 == x) (yM y)
    unfold InvR at rr
    unfold mbx
    omega
  · show (((yE y).tail).map (fun e => e.1)).Nodup
    unfold InvE at e
    rw [he, List.map_cons, List.nodup_cons] at e
    rw [he]
    exact e.2
  · intro k hk
    have hk2 := List.mem_filter.mp hk
    exact ⟨mem (ow k hk2.1).1 (fun z => by have := hk2.2; simp [z] at this), (ow k hk2.1).2⟩
  · intro m hm
    have hm2 := List.mem_filter.mp hm
    exact mem (ml m hm2.1) (fun z => by have := hm2.2; simp [z] at this)
  · exact fun k hk => ids k (nd.mem_erase_iff.mp hk).2
  · intro p hp
    have hp : p ∈ (yE y).tail := hp
    rw [he] at hp
    exact mem (ea p (by rw [he]; exact List.mem_cons_of_mem _ hp)) (hd p hp)
theorem lkd_sub {y : Yd} {z x a b : Int32} (h : lkd (yCut y z x) a b = true) : lkd y a b = true := by
  obtain ⟨p, hp, hk⟩ := List.any_eq_true.mp h
  exact List.any_eq_true.mpr ⟨p, List.mem_of_mem_eraseP hp, hk⟩
theorem lkd_cut {y : Yd} (h : KU y) (z x : Int32) : lkd (yCut y z x) z x = false := any_eraseP_same h z x
theorem lkd_cut_o {y : Yd} {z x a : Int32} (ha : ¬ a = z) (hx : ¬ a = x) : lkd (yCut y z x) a x = lkd y a x :=
  any_eraseP_other (fun p hp => isK_dis hp (fun w => ha w.1) (fun w => hx w.1)) (yK y)
