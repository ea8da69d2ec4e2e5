/-! The constructor of MailYard -/
theorem wj_197 : (Jvm.Cond.fieldLink "MailYard" (23 : Nat) "MailYard" "spare" "LMailYard$Line;") ∈ wT := inT1 (i := 197) rfl rfl
theorem wj_106 : (Jvm.Cond.classLink "MailYard" (60 : Nat) "MailYard$Actor") ∈ wT := inT1 (i := 106) rfl rfl
theorem wj_107 : (Jvm.Cond.instantiable "MailYard$Actor" (15 : Nat)) ∈ wT := inT1 (i := 107) rfl rfl
theorem wj_4 : (Jvm.Cond.initialized "MailYard$Line") ∈ wT := inT1 (i := 4) rfl rfl
theorem wj_7 : (Jvm.Cond.initialized "MailYard$Actor") ∈ wT := inT1 (i := 7) rfl rfl
theorem wj_108 : (Jvm.Cond.methodLink "MailYard" (62 : Nat) ({ cls := "MailYard$Actor", name := "<init>", desc := "(I)V" } : Jvm.MethodName)) ∈ wT := inT1 (i := 108) rfl rfl
theorem wj_109 : (Jvm.Cond.instanceMethod ({ cls := "MailYard$Actor", name := "<init>", desc := "(I)V" } : Jvm.MethodName)) ∈ wT := inT1 (i := 109) rfl rfl
theorem wj_191 : (Jvm.Cond.methodLink "MailYard" (65 : Nat) ({ cls := "MailYard$Line", name := "add", desc := "(LMailYard$Actor;)V" } : Jvm.MethodName)) ∈ wT := inT1 (i := 191) rfl rfl
theorem wj_192 : (Jvm.Cond.instanceMethod ({ cls := "MailYard$Line", name := "add", desc := "(LMailYard$Actor;)V" } : Jvm.MethodName)) ∈ wT := inT1 (i := 192) rfl rfl
theorem wj_193 : (Jvm.Cond.selects "MailYard$Line" ({ cls := "MailYard$Line", name := "add", desc := "(LMailYard$Actor;)V" } : Jvm.MethodName) ({ cls := "MailYard$Line", name := "add", desc := "(LMailYard$Actor;)V" } : Jvm.MethodName)) ∈ wT := inT1 (i := 193) rfl rfl
theorem jr_sub {p : Program} {l : Launch} {e : Env} {R : Room} {s : State} {m : MethodId} {args : Array Value} {below : List Frame} {meth : Method} {c : Code} {nL : Nat} {D : va_G} {A : Nat → Prop} {Q : State → Prop} {w w' : va_W} {ce sl pc : Nat} {lv : List (Nat × Value)} {st : List Value} (is : List Nat) (hn : va_nd is = true) (hs : is.filterMap (fun i => w[i]?) = w') (hs2 : is.map (fun i => w[i]?) = w'.map some) (h : Jr p l e R s m args below meth c nL D A Q w' ce sl pc lv st) : Jr p l e R s m args below meth c nL D A Q w ce sl pc lv st :=
  fun H locs ls hP hD hS hl => h H locs ls (hP.sub is hs) (hD.sub is hn hs2) hS hl
theorem D_perm {A : Nat → Prop} {w w' : va_W} (hp : w.Perm w') (h : va_D A w) : va_D A w' := by
  have h1 : (w.map (fun q => q.1)).Nodup := by
    rw [List.nodup_iff_pairwise_ne, List.pairwise_map, List.pairwise_iff_getElem]
    intro i j hi hj hij e
    have := h.1 i j _ _ (List.getElem?_eq_getElem hi) (List.getElem?_eq_getElem hj) e
    omega
  have h2 : (w'.map (fun q => q.1)).Nodup := (hp.map _).nodup_iff.mp h1
  refine ⟨fun i j a b h3 h4 h5 => ?_, fun k q hq => ?_⟩
  · obtain ⟨hi, rfl⟩ := List.getElem?_eq_some_iff.mp h3
    obtain ⟨hj, rfl⟩ := List.getElem?_eq_some_iff.mp h4
    have hi' : i < (w'.map (fun q => q.1)).length := by rw [List.length_map]; exact hi
    have hj' : j < (w'.map (fun q => q.1)).length := by rw [List.length_map]; exact hj
    have h6 := List.pairwise_iff_getElem.mp (List.nodup_iff_pairwise_ne.mp h2)
    rcases Nat.lt_trichotomy i j with hz | hz | hz
    · exact absurd (by rw [List.getElem_map, List.getElem_map]; exact h5) (h6 i j hi' hj' hz)
    · exact hz
    · exact absurd (by rw [List.getElem_map, List.getElem_map]; exact h5.symm) (h6 j i hj' hi' hz)
  · have hm : q ∈ w := hp.mem_iff.mpr (List.mem_of_getElem? hq)
    obtain ⟨k', hk'⟩ := List.getElem?_of_mem hm
    exact h.2 k' q hk'
theorem jr_perm {p : Program} {l : Launch} {e : Env} {R : Room} {s : State} {m : MethodId} {args : Array Value} {below : List Frame} {meth : Method} {c : Code} {nL : Nat} {D : va_G} {A : Nat → Prop} {Q : State → Prop} {w w' : va_W} {ce sl pc : Nat} {lv : List (Nat × Value)} {st : List Value} (hp : w.Perm w') (h : Jr p l e R s m args below meth c nL D A Q w' ce sl pc lv st) : Jr p l e R s m args below meth c nL D A Q w ce sl pc lv st :=
  fun H locs ls hP hD hS hl => h H locs ls (fun k q hq => by
    obtain ⟨k', hk'⟩ := List.getElem?_of_mem (hp.mem_iff.mpr (List.mem_of_getElem? hq))
    exact hP k' q hk') (D_perm hp hD) hS hl
def ln1 (cA : Nat → ClassId) (l1 r1 n : Nat) (g : Nat → Option Nat) : va_W := [(l1, .inr (2, [.ref r1, .int (nI n)])), (r1, .inl (cA 2, 8, .inr (.inr (.inr (.inr g)))))]
def ouX6_init : (Nat → ClassId) → Nat → va_W → Prop := fun cA a0 w => ∃ q1 q2 q3 q4 q5 q6 q7 q8 q9 q10 q11 q12 q13 q14 q15 q16 q17 q18 q19 q20 : Nat, ∃ f : Nat → Int32, ∃ α : Nat → aU, (∀ p, p < 48 → f p = -1) ∧ w = ln1 cA q7 q8 8 (rowf α 8) ++ (baseO cA f a0 q1 q2 q3 q4 q5 q6 q7 q8 q9 q10 q11 q12 q13 q14 q15 q16 q17 q18 q19 q20 ++ acts cA α 8)
theorem ct31 (cA : Nat → ClassId) (l1 r1 n : Nat) (α : Nat → aU) (τ : mS) : wl cA (adl l1 r1 α) τ [(3, 1), (4, 1), (5, n)] = [(l1, .inr (2, [.ref r1, .int (τ.1 3 1 1)])), (r1, .inl (cA 2, 8, .inr (.inr (.inr (.inr (fun p => cad (adl l1 r1 α) (τ.2.2 4 1 p))))))), ((α n).1, .inr (0, [.int (τ.1 5 n 0), .ref (α n).2.1, .ref (α n).2.2.1, .ref (α n).2.2.2.2.2, .int (τ.1 5 n 4), .int (τ.1 5 n 5), .int (τ.1 5 n 6), .int (τ.1 5 n 7), .int (τ.1 5 n 8), .int (τ.1 5 n 9), .int (τ.1 5 n 10), .int (τ.1 5 n 11), .int (τ.1 5 n 12), .int (τ.1 5 n 13), .int (τ.1 5 n 14)]))] := rfl
def five (cA : Nat → ClassId) (u : aU) : va_W := [(u.2.1, .inl (cA 0, 4, .inl (fun _ => 0))), (u.2.2.1, .inr (3, [.ref u.2.2.2.1, .ref u.2.2.2.2.1, .int 0, .int 0])), (u.2.2.2.1, .inl (cA 0, 24, .inl (fun _ => 0))), (u.2.2.2.2.1, .inl (cA 0, 24, .inl (fun _ => 0))), (u.2.2.2.2.2, .inl (cA 1, 3, .inr (.inl (fun _ => 0))))]
theorem six_eq (cA : Nat → ClassId) (u : aU) (n : Nat) : six cA u n = (u.1, .inr (0, [.int (nI n), .ref u.2.1, .ref u.2.2.1, .ref u.2.2.2.2.2, .int 0, .int 0, .int 0, .int 0, .int 0, .int 0, .int 0, .int 0, .int 0, .int 0, .int 0])) :: five cA u := rfl
theorem perm_a {x y b : Nat × va_E} {B T F : va_W} : ([x, y] ++ (B ++ T) ++ (b :: F)).Perm ([] ++ ([x, y, b] ++ (B ++ (T ++ F)))) := by
  show (x :: y :: ((B ++ T) ++ (b :: F))).Perm (x :: y :: b :: (B ++ (T ++ F)))
  refine List.Perm.cons _ (List.Perm.cons _ ?_)
  have := List.perm_middle (a := b) (l₁ := B ++ T) (l₂ := F)
  rw [List.append_assoc B T F] at this
  exact this
theorem mkX6_init : Makes yX6_init (kX6_init :: wT) riX6_init 68 947 6 [.null, .null, .null, .null, .null, .null, .null, .long 0, .int 0, .int 0, .int 0] [] ZZ ouX6_init := by
  refine Makes.of rfl (by decide) rfl rfl (fun _ => Nat.le_of_ble_eq_true rfl) ?_
  intro p l e s m args below meth c D cA A a0 Q x hini z fin
  refine jr_aload_n x dX6_init_0 rfl 0 rfl ?_
  refine jr_obj x dX6_init_1 (List.mem_cons_of_mem _ wi_16) (List.mem_cons_of_mem _ wi_17) (List.mem_cons_of_mem _ wi_18) (by decide) (by decide) ?_
  refine jr_aload_n x dX6_init_4 rfl 0 rfl ?_
  refine jr_new (ci := 1) (C := RX1) (T := TX1) (N := 3) (fs := [.null, .null, .null]) x tyX1 dX6_init_5 rfl (fun w h => List.mem_cons_of_mem _ (inX1 w h)) tyX1_ok (List.mem_cons_of_mem _ wi_19) (List.mem_cons_of_mem _ wi_20) (List.mem_cons_of_mem _ wi_2) dfX1 (by decide) (by decide) (fun q1 => ?_)
  refine jr_dup x dX6_init_8 ?_
  refine jr_makeI (as := []) x mkX1_init dX6_init_9 (cwI 0 x.2.2.2.2.1 (gT (fun w h => (List.mem_cons.mp h).elim (fun e => by rw [e]; exact kX1_init_in) id)) rfl rfl rfl (x.2.2.2.2.1 _ (List.mem_cons_of_mem _ wi_2)) (x.2.2.2.2.1 _ (List.mem_cons_of_mem _ wi_21)) (x.2.2.2.2.1 _ (List.mem_cons_of_mem _ wi_22)) rfl hX1_init ⟨by decide, by decide⟩) (Nat.le_of_ble_eq_true rfl) (by decide) (fun U hW => z.warm hW) ZZ.blind (fun w1 ho => ?_)
  obtain ⟨q2, q3, q4, f, hf, rfl⟩ := ho
  refine jr_putF x hini tyX6 dX6_init_12 rfl (fun w h => List.mem_cons_of_mem _ (inX6 w h)) tyX6_ok nmX6 0 (by decide) (List.mem_cons_of_mem _ wi_195) rfl rfl rfl rfl 0 rfl (Nat.le_of_ble_eq_true rfl) (w' := [(a0, .inr (6, [.ref q1, .null, .null, .null, .null, .null, .null, .long 0, .int 0, .int 0, .int 0])), (q1, .inr (1, [.ref q2, .ref q3, .ref q4])), (q2, .inl (cA 0, 48, .inl f)), (q3, .inl (cA 0, 48, .inl (fun _ => 0))), (q4, .inl (cA 0, 48, .inl (fun _ => 0)))]) rfl ?_
  refine jr_aload_n x dX6_init_15 rfl 0 rfl ?_
  refine jr_new (ci := 2) (C := RX2) (T := TX2) (N := 2) (fs := [.null, .int 0]) x tyX2 dX6_init_16 rfl (fun w h => List.mem_cons_of_mem _ (inX2 w h)) tyX2_ok (List.mem_cons_of_mem _ wi_42) (List.mem_cons_of_mem _ wi_43) (List.mem_cons_of_mem _ wi_4) dfX2 (by decide) (by decide) (fun q5 => ?_)
  refine jr_dup x dX6_init_19 ?_
  refine jr_makeN (as := []) x mkX2_init dX6_init_20 (⟨va_cnB 0 x.2.2.2.2.1 (gT (fun w h => (List.mem_cons.mp h).elim (fun e => by rw [e]; exact kX2_init_in) id)) rfl rfl rfl z.1 (x.2.2.2.2.1 _ (List.mem_cons_of_mem _ wi_4)) hX2_init ⟨by decide, by decide⟩, rfl, x.2.2.2.2.1 _ (List.mem_cons_of_mem _ wi_45)⟩) (Nat.le_of_ble_eq_true rfl) (by decide) (fun U hW => z.warm hW) ZZ.blind (fun w1 ho => ?_)
  obtain ⟨q6, rfl⟩ := ho
  refine jr_putF x hini tyX6 dX6_init_23 rfl (fun w h => List.mem_cons_of_mem _ (inX6 w h)) tyX6_ok nmX6 1 (by decide) (List.mem_cons_of_mem _ wi_196) rfl rfl rfl rfl 0 rfl (Nat.le_of_ble_eq_true rfl) (w' := [(a0, .inr (6, [.ref q1, .ref q5, .null, .null, .null, .null, .null, .long 0, .int 0, .int 0, .int 0])), (q1, .inr (1, [.ref q2, .ref q3, .ref q4])), (q2, .inl (cA 0, 48, .inl f)), (q3, .inl (cA 0, 48, .inl (fun _ => 0))), (q4, .inl (cA 0, 48, .inl (fun _ => 0))), (q5, .inr (2, [.ref q6, .int 0])), (q6, .inl (cA 2, 8, .inr (.inr (.inr (.inr (fun _ => none))))))]) rfl ?_
  refine jr_aload_n x dX6_init_26 rfl 0 rfl ?_
  refine jr_new (ci := 2) (C := RX2) (T := TX2) (N := 2) (fs := [.null, .int 0]) x tyX2 dX6_init_27 rfl (fun w h => List.mem_cons_of_mem _ (inX2 w h)) tyX2_ok (List.mem_cons_of_mem _ wi_42) (List.mem_cons_of_mem _ wi_43) (List.mem_cons_of_mem _ wi_4) dfX2 (by decide) (by decide) (fun q7 => ?_)
  refine jr_dup x dX6_init_30 ?_
  refine jr_makeN (as := []) x mkX2_init dX6_init_31 (⟨va_cnB 0 x.2.2.2.2.1 (gT (fun w h => (List.mem_cons.mp h).elim (fun e => by rw [e]; exact kX2_init_in) id)) rfl rfl rfl z.1 (x.2.2.2.2.1 _ (List.mem_cons_of_mem _ wi_4)) hX2_init ⟨by decide, by decide⟩, rfl, x.2.2.2.2.1 _ (List.mem_cons_of_mem _ wi_45)⟩) (Nat.le_of_ble_eq_true rfl) (by decide) (fun U hW => z.warm hW) ZZ.blind (fun w1 ho => ?_)
  obtain ⟨q8, rfl⟩ := ho
  refine jr_putF x hini tyX6 dX6_init_34 rfl (fun w h => List.mem_cons_of_mem _ (inX6 w h)) tyX6_ok nmX6 2 (by decide) (List.mem_cons_of_mem _ wi_197) rfl rfl rfl rfl 0 rfl (Nat.le_of_ble_eq_true rfl) (w' := [(a0, .inr (6, [.ref q1, .ref q5, .ref q7, .null, .null, .null, .null, .long 0, .int 0, .int 0, .int 0])), (q1, .inr (1, [.ref q2, .ref q3, .ref q4])), (q2, .inl (cA 0, 48, .inl f)), (q3, .inl (cA 0, 48, .inl (fun _ => 0))), (q4, .inl (cA 0, 48, .inl (fun _ => 0))), (q5, .inr (2, [.ref q6, .int 0])), (q6, .inl (cA 2, 8, .inr (.inr (.inr (.inr (fun _ => none)))))), (q7, .inr (2, [.ref q8, .int 0])), (q8, .inl (cA 2, 8, .inr (.inr (.inr (.inr (fun _ => none))))))]) rfl ?_
  refine jr_aload_n x dX6_init_37 rfl 0 rfl ?_
  refine jr_new (ci := 2) (C := RX2) (T := TX2) (N := 2) (fs := [.null, .int 0]) x tyX2 dX6_init_38 rfl (fun w h => List.mem_cons_of_mem _ (inX2 w h)) tyX2_ok (List.mem_cons_of_mem _ wi_42) (List.mem_cons_of_mem _ wi_43) (List.mem_cons_of_mem _ wi_4) dfX2 (by decide) (by decide) (fun q9 => ?_)
  refine jr_dup x dX6_init_41 ?_
  refine jr_makeN (as := []) x mkX2_init dX6_init_42 (⟨va_cnB 0 x.2.2.2.2.1 (gT (fun w h => (List.mem_cons.mp h).elim (fun e => by rw [e]; exact kX2_init_in) id)) rfl rfl rfl z.1 (x.2.2.2.2.1 _ (List.mem_cons_of_mem _ wi_4)) hX2_init ⟨by decide, by decide⟩, rfl, x.2.2.2.2.1 _ (List.mem_cons_of_mem _ wi_45)⟩) (Nat.le_of_ble_eq_true rfl) (by decide) (fun U hW => z.warm hW) ZZ.blind (fun w1 ho => ?_)
  obtain ⟨q10, rfl⟩ := ho
  refine jr_putF x hini tyX6 dX6_init_45 rfl (fun w h => List.mem_cons_of_mem _ (inX6 w h)) tyX6_ok nmX6 3 (by decide) (List.mem_cons_of_mem _ wi_198) rfl rfl rfl rfl 0 rfl (Nat.le_of_ble_eq_true rfl) (w' := [(a0, .inr (6, [.ref q1, .ref q5, .ref q7, .ref q9, .null, .null, .null, .long 0, .int 0, .int 0, .int 0])), (q1, .inr (1, [.ref q2, .ref q3, .ref q4])), (q2, .inl (cA 0, 48, .inl f)), (q3, .inl (cA 0, 48, .inl (fun _ => 0))), (q4, .inl (cA 0, 48, .inl (fun _ => 0))), (q5, .inr (2, [.ref q6, .int 0])), (q6, .inl (cA 2, 8, .inr (.inr (.inr (.inr (fun _ => none)))))), (q7, .inr (2, [.ref q8, .int 0])), (q8, .inl (cA 2, 8, .inr (.inr (.inr (.inr (fun _ => none)))))), (q9, .inr (2, [.ref q10, .int 0])), (q10, .inl (cA 2, 8, .inr (.inr (.inr (.inr (fun _ => none))))))]) rfl ?_
  refine jr_aload_n x dX6_init_48 rfl 0 rfl ?_
  refine jr_new (ci := 2) (C := RX2) (T := TX2) (N := 2) (fs := [.null, .int 0]) x tyX2 dX6_init_49 rfl (fun w h => List.mem_cons_of_mem _ (inX2 w h)) tyX2_ok (List.mem_cons_of_mem _ wi_42) (List.mem_cons_of_mem _ wi_43) (List.mem_cons_of_mem _ wi_4) dfX2 (by decide) (by decide) (fun q11 => ?_)
  refine jr_dup x dX6_init_52 ?_
  refine jr_makeN (as := []) x mkX2_init dX6_init_53 (⟨va_cnB 0 x.2.2.2.2.1 (gT (fun w h => (List.mem_cons.mp h).elim (fun e => by rw [e]; exact kX2_init_in) id)) rfl rfl rfl z.1 (x.2.2.2.2.1 _ (List.mem_cons_of_mem _ wi_4)) hX2_init ⟨by decide, by decide⟩, rfl, x.2.2.2.2.1 _ (List.mem_cons_of_mem _ wi_45)⟩) (Nat.le_of_ble_eq_true rfl) (by decide) (fun U hW => z.warm hW) ZZ.blind (fun w1 ho => ?_)
  obtain ⟨q12, rfl⟩ := ho
  refine jr_putF x hini tyX6 dX6_init_56 rfl (fun w h => List.mem_cons_of_mem _ (inX6 w h)) tyX6_ok nmX6 4 (by decide) (List.mem_cons_of_mem _ wi_199) rfl rfl rfl rfl 0 rfl (Nat.le_of_ble_eq_true rfl) (w' := [(a0, .inr (6, [.ref q1, .ref q5, .ref q7, .ref q9, .ref q11, .null, .null, .long 0, .int 0, .int 0, .int 0])), (q1, .inr (1, [.ref q2, .ref q3, .ref q4])), (q2, .inl (cA 0, 48, .inl f)), (q3, .inl (cA 0, 48, .inl (fun _ => 0))), (q4, .inl (cA 0, 48, .inl (fun _ => 0))), (q5, .inr (2, [.ref q6, .int 0])), (q6, .inl (cA 2, 8, .inr (.inr (.inr (.inr (fun _ => none)))))), (q7, .inr (2, [.ref q8, .int 0])), (q8, .inl (cA 2, 8, .inr (.inr (.inr (.inr (fun _ => none)))))), (q9, .inr (2, [.ref q10, .int 0])), (q10, .inl (cA 2, 8, .inr (.inr (.inr (.inr (fun _ => none)))))), (q11, .inr (2, [.ref q12, .int 0])), (q12, .inl (cA 2, 8, .inr (.inr (.inr (.inr (fun _ => none))))))]) rfl ?_
  refine jr_aload_n x dX6_init_59 rfl 0 rfl ?_
  refine jr_new (ci := 5) (C := RX5) (T := TX5) (N := 5) (fs := [.null, .null, .null, .null, .int 0]) x tyX5 dX6_init_60 rfl (fun w h => List.mem_cons_of_mem _ (inX5 w h)) tyX5_ok (List.mem_cons_of_mem _ wi_59) (List.mem_cons_of_mem _ wi_60) (List.mem_cons_of_mem _ wi_5) dfX5 (by decide) (by decide) (fun q13 => ?_)
  refine jr_dup x dX6_init_63 ?_
  refine jr_makeN (as := []) x mkX5_init dX6_init_64 (⟨va_cnB 0 x.2.2.2.2.1 (gT (fun w h => (List.mem_cons.mp h).elim (fun e => by rw [e]; exact kX5_init_in) id)) rfl rfl rfl z.2.1 (x.2.2.2.2.1 _ (List.mem_cons_of_mem _ wi_5)) hX5_init ⟨by decide, by decide⟩, rfl, x.2.2.2.2.1 _ (List.mem_cons_of_mem _ wi_62)⟩) (Nat.le_of_ble_eq_true rfl) (by decide) (fun U hW => z.warm hW) ZZ.blind (fun w1 ho => ?_)
  obtain ⟨q14, q15, q16, q17, rfl⟩ := ho
  refine jr_putF x hini tyX6 dX6_init_67 rfl (fun w h => List.mem_cons_of_mem _ (inX6 w h)) tyX6_ok nmX6 5 (by decide) (List.mem_cons_of_mem _ wi_200) rfl rfl rfl rfl 0 rfl (Nat.le_of_ble_eq_true rfl) (w' := [(a0, .inr (6, [.ref q1, .ref q5, .ref q7, .ref q9, .ref q11, .ref q13, .null, .long 0, .int 0, .int 0, .int 0])), (q1, .inr (1, [.ref q2, .ref q3, .ref q4])), (q2, .inl (cA 0, 48, .inl f)), (q3, .inl (cA 0, 48, .inl (fun _ => 0))), (q4, .inl (cA 0, 48, .inl (fun _ => 0))), (q5, .inr (2, [.ref q6, .int 0])), (q6, .inl (cA 2, 8, .inr (.inr (.inr (.inr (fun _ => none)))))), (q7, .inr (2, [.ref q8, .int 0])), (q8, .inl (cA 2, 8, .inr (.inr (.inr (.inr (fun _ => none)))))), (q9, .inr (2, [.ref q10, .int 0])), (q10, .inl (cA 2, 8, .inr (.inr (.inr (.inr (fun _ => none)))))), (q11, .inr (2, [.ref q12, .int 0])), (q12, .inl (cA 2, 8, .inr (.inr (.inr (.inr (fun _ => none)))))), (q13, .inr (5, [.ref q14, .ref q15, .ref q16, .ref q17, .int 0])), (q14, .inl (cA 0, 10, .inl (fun _ => 0))), (q15, .inl (cA 0, 10, .inl (fun _ => 0))), (q16, .inl (cA 3, 10, .inl (fun _ => 0))), (q17, .inl (cA 1, 10, .inr (.inl (fun _ => 0))))]) rfl ?_
  refine jr_aload_n x dX6_init_70 rfl 0 rfl ?_
  refine jr_new (ci := 4) (C := RX4) (T := TX4) (N := 3) (fs := [.null, .null, .int 0]) x tyX4 dX6_init_71 rfl (fun w h => List.mem_cons_of_mem _ (inX4 w h)) tyX4_ok (List.mem_cons_of_mem _ wi_87) (List.mem_cons_of_mem _ wi_88) (List.mem_cons_of_mem _ wi_6) dfX4 (by decide) (by decide) (fun q18 => ?_)
  refine jr_dup x dX6_init_74 ?_
  refine jr_makeN (as := []) x mkX4_init dX6_init_75 (⟨va_cnB 0 x.2.2.2.2.1 (gT (fun w h => (List.mem_cons.mp h).elim (fun e => by rw [e]; exact kX4_init_in) id)) rfl rfl rfl z.2.2.1 (x.2.2.2.2.1 _ (List.mem_cons_of_mem _ wi_6)) hX4_init ⟨by decide, by decide⟩, rfl, x.2.2.2.2.1 _ (List.mem_cons_of_mem _ wi_90)⟩) (Nat.le_of_ble_eq_true rfl) (by decide) (fun U hW => z.warm hW) ZZ.blind (fun w1 ho => ?_)
  obtain ⟨q19, q20, rfl⟩ := ho
  refine jr_putF x hini tyX6 dX6_init_78 rfl (fun w h => List.mem_cons_of_mem _ (inX6 w h)) tyX6_ok nmX6 6 (by decide) (List.mem_cons_of_mem _ wi_201) rfl rfl rfl rfl 0 rfl (Nat.le_of_ble_eq_true rfl) (w' := [(a0, .inr (6, [.ref q1, .ref q5, .ref q7, .ref q9, .ref q11, .ref q13, .ref q18, .long 0, .int 0, .int 0, .int 0])), (q1, .inr (1, [.ref q2, .ref q3, .ref q4])), (q2, .inl (cA 0, 48, .inl f)), (q3, .inl (cA 0, 48, .inl (fun _ => 0))), (q4, .inl (cA 0, 48, .inl (fun _ => 0))), (q5, .inr (2, [.ref q6, .int 0])), (q6, .inl (cA 2, 8, .inr (.inr (.inr (.inr (fun _ => none)))))), (q7, .inr (2, [.ref q8, .int 0])), (q8, .inl (cA 2, 8, .inr (.inr (.inr (.inr (fun _ => none)))))), (q9, .inr (2, [.ref q10, .int 0])), (q10, .inl (cA 2, 8, .inr (.inr (.inr (.inr (fun _ => none)))))), (q11, .inr (2, [.ref q12, .int 0])), (q12, .inl (cA 2, 8, .inr (.inr (.inr (.inr (fun _ => none)))))), (q13, .inr (5, [.ref q14, .ref q15, .ref q16, .ref q17, .int 0])), (q14, .inl (cA 0, 10, .inl (fun _ => 0))), (q15, .inl (cA 0, 10, .inl (fun _ => 0))), (q16, .inl (cA 3, 10, .inl (fun _ => 0))), (q17, .inl (cA 1, 10, .inr (.inl (fun _ => 0)))), (q18, .inr (4, [.ref q19, .ref q20, .int 0])), (q19, .inl (cA 0, 60, .inl (fun _ => 0))), (q20, .inl (cA 0, 60, .inl (fun _ => 0)))]) rfl ?_
  refine jr_aload_n x dX6_init_81 rfl 0 rfl ?_
  refine jr_lconst (v := 0) x dX6_init_82 (by decide) ?_
  refine jr_put x tyX6 dX6_init_83 rfl (fun w h => List.mem_cons_of_mem _ (inX6 w h)) tyX6_ok nmX6 7 (by decide) (List.mem_cons_of_mem _ wi_202) rfl rfl rfl 0 rfl (Nat.le_of_ble_eq_true rfl) (w' := [(a0, .inr (6, [.ref q1, .ref q5, .ref q7, .ref q9, .ref q11, .ref q13, .ref q18, .long 0, .int 0, .int 0, .int 0])), (q1, .inr (1, [.ref q2, .ref q3, .ref q4])), (q2, .inl (cA 0, 48, .inl f)), (q3, .inl (cA 0, 48, .inl (fun _ => 0))), (q4, .inl (cA 0, 48, .inl (fun _ => 0))), (q5, .inr (2, [.ref q6, .int 0])), (q6, .inl (cA 2, 8, .inr (.inr (.inr (.inr (fun _ => none)))))), (q7, .inr (2, [.ref q8, .int 0])), (q8, .inl (cA 2, 8, .inr (.inr (.inr (.inr (fun _ => none)))))), (q9, .inr (2, [.ref q10, .int 0])), (q10, .inl (cA 2, 8, .inr (.inr (.inr (.inr (fun _ => none)))))), (q11, .inr (2, [.ref q12, .int 0])), (q12, .inl (cA 2, 8, .inr (.inr (.inr (.inr (fun _ => none)))))), (q13, .inr (5, [.ref q14, .ref q15, .ref q16, .ref q17, .int 0])), (q14, .inl (cA 0, 10, .inl (fun _ => 0))), (q15, .inl (cA 0, 10, .inl (fun _ => 0))), (q16, .inl (cA 3, 10, .inl (fun _ => 0))), (q17, .inl (cA 1, 10, .inr (.inl (fun _ => 0)))), (q18, .inr (4, [.ref q19, .ref q20, .int 0])), (q19, .inl (cA 0, 60, .inl (fun _ => 0))), (q20, .inl (cA 0, 60, .inl (fun _ => 0)))]) rfl ?_
  refine jr_aload_n x dX6_init_86 rfl 0 rfl ?_
  refine jr_bipush (v := 24) x dX6_init_87 (by decide) ?_
  refine jr_put x tyX6 dX6_init_89 rfl (fun w h => List.mem_cons_of_mem _ (inX6 w h)) tyX6_ok nmX6 8 (by decide) (List.mem_cons_of_mem _ wi_203) rfl rfl rfl 0 rfl (Nat.le_of_ble_eq_true rfl) (w' := [(a0, .inr (6, [.ref q1, .ref q5, .ref q7, .ref q9, .ref q11, .ref q13, .ref q18, .long 0, .int 24, .int 0, .int 0])), (q1, .inr (1, [.ref q2, .ref q3, .ref q4])), (q2, .inl (cA 0, 48, .inl f)), (q3, .inl (cA 0, 48, .inl (fun _ => 0))), (q4, .inl (cA 0, 48, .inl (fun _ => 0))), (q5, .inr (2, [.ref q6, .int 0])), (q6, .inl (cA 2, 8, .inr (.inr (.inr (.inr (fun _ => none)))))), (q7, .inr (2, [.ref q8, .int 0])), (q8, .inl (cA 2, 8, .inr (.inr (.inr (.inr (fun _ => none)))))), (q9, .inr (2, [.ref q10, .int 0])), (q10, .inl (cA 2, 8, .inr (.inr (.inr (.inr (fun _ => none)))))), (q11, .inr (2, [.ref q12, .int 0])), (q12, .inl (cA 2, 8, .inr (.inr (.inr (.inr (fun _ => none)))))), (q13, .inr (5, [.ref q14, .ref q15, .ref q16, .ref q17, .int 0])), (q14, .inl (cA 0, 10, .inl (fun _ => 0))), (q15, .inl (cA 0, 10, .inl (fun _ => 0))), (q16, .inl (cA 3, 10, .inl (fun _ => 0))), (q17, .inl (cA 1, 10, .inr (.inl (fun _ => 0)))), (q18, .inr (4, [.ref q19, .ref q20, .int 0])), (q19, .inl (cA 0, 60, .inl (fun _ => 0))), (q20, .inl (cA 0, 60, .inl (fun _ => 0)))]) rfl ?_
  refine jr_aload_n x dX6_init_92 rfl 0 rfl ?_
  refine jr_iconst (v := 0) x dX6_init_93 (by decide) ?_
  refine jr_put x tyX6 dX6_init_94 rfl (fun w h => List.mem_cons_of_mem _ (inX6 w h)) tyX6_ok nmX6 9 (by decide) (List.mem_cons_of_mem _ wi_204) rfl rfl rfl 0 rfl (Nat.le_of_ble_eq_true rfl) (w' := [(a0, .inr (6, [.ref q1, .ref q5, .ref q7, .ref q9, .ref q11, .ref q13, .ref q18, .long 0, .int 24, .int 0, .int 0])), (q1, .inr (1, [.ref q2, .ref q3, .ref q4])), (q2, .inl (cA 0, 48, .inl f)), (q3, .inl (cA 0, 48, .inl (fun _ => 0))), (q4, .inl (cA 0, 48, .inl (fun _ => 0))), (q5, .inr (2, [.ref q6, .int 0])), (q6, .inl (cA 2, 8, .inr (.inr (.inr (.inr (fun _ => none)))))), (q7, .inr (2, [.ref q8, .int 0])), (q8, .inl (cA 2, 8, .inr (.inr (.inr (.inr (fun _ => none)))))), (q9, .inr (2, [.ref q10, .int 0])), (q10, .inl (cA 2, 8, .inr (.inr (.inr (.inr (fun _ => none)))))), (q11, .inr (2, [.ref q12, .int 0])), (q12, .inl (cA 2, 8, .inr (.inr (.inr (.inr (fun _ => none)))))), (q13, .inr (5, [.ref q14, .ref q15, .ref q16, .ref q17, .int 0])), (q14, .inl (cA 0, 10, .inl (fun _ => 0))), (q15, .inl (cA 0, 10, .inl (fun _ => 0))), (q16, .inl (cA 3, 10, .inl (fun _ => 0))), (q17, .inl (cA 1, 10, .inr (.inl (fun _ => 0)))), (q18, .inr (4, [.ref q19, .ref q20, .int 0])), (q19, .inl (cA 0, 60, .inl (fun _ => 0))), (q20, .inl (cA 0, 60, .inl (fun _ => 0)))]) rfl ?_
  refine jr_aload_n x dX6_init_97 rfl 0 rfl ?_
  refine jr_iconst (v := 0) x dX6_init_98 (by decide) ?_
  refine jr_put x tyX6 dX6_init_99 rfl (fun w h => List.mem_cons_of_mem _ (inX6 w h)) tyX6_ok nmX6 10 (by decide) (List.mem_cons_of_mem _ wi_205) rfl rfl rfl 0 rfl (Nat.le_of_ble_eq_true rfl) (w' := [(a0, .inr (6, [.ref q1, .ref q5, .ref q7, .ref q9, .ref q11, .ref q13, .ref q18, .long 0, .int 24, .int 0, .int 0])), (q1, .inr (1, [.ref q2, .ref q3, .ref q4])), (q2, .inl (cA 0, 48, .inl f)), (q3, .inl (cA 0, 48, .inl (fun _ => 0))), (q4, .inl (cA 0, 48, .inl (fun _ => 0))), (q5, .inr (2, [.ref q6, .int 0])), (q6, .inl (cA 2, 8, .inr (.inr (.inr (.inr (fun _ => none)))))), (q7, .inr (2, [.ref q8, .int 0])), (q8, .inl (cA 2, 8, .inr (.inr (.inr (.inr (fun _ => none)))))), (q9, .inr (2, [.ref q10, .int 0])), (q10, .inl (cA 2, 8, .inr (.inr (.inr (.inr (fun _ => none)))))), (q11, .inr (2, [.ref q12, .int 0])), (q12, .inl (cA 2, 8, .inr (.inr (.inr (.inr (fun _ => none)))))), (q13, .inr (5, [.ref q14, .ref q15, .ref q16, .ref q17, .int 0])), (q14, .inl (cA 0, 10, .inl (fun _ => 0))), (q15, .inl (cA 0, 10, .inl (fun _ => 0))), (q16, .inl (cA 3, 10, .inl (fun _ => 0))), (q17, .inl (cA 1, 10, .inr (.inl (fun _ => 0)))), (q18, .inr (4, [.ref q19, .ref q20, .int 0])), (q19, .inl (cA 0, 60, .inl (fun _ => 0))), (q20, .inl (cA 0, 60, .inl (fun _ => 0)))]) rfl ?_
  refine jr_iconst (v := 0) x dX6_init_102 (by decide) ?_
  refine jr_istore_n x dX6_init_103 rfl (by decide) (lv' := [(1, .int 0), (0, .ref a0)]) rfl ?_
  have loop : ∀ (k n : Nat) (α : Nat → aU), n + k = 8 → Jr p l e riX6_init s m args below meth c 2 D A Q (ln1 cA q7 q8 n (rowf α n) ++ (baseO cA f a0 q1 q2 q3 q4 q5 q6 q7 q8 q9 q10 q11 q12 q13 q14 q15 q16 q17 q18 q19 q20 ++ acts cA α n)) (20 + 6 * n) (355 + 74 * n) 104 [(1, .int (nI n)), (0, .ref a0)] [] := by
    intro k
    induction k with
    | zero =>
      intro n α hn
      have hn : n = 8 := by omega
      subst hn
      refine jr_iload_n x dX6_init_104 rfl 0 rfl ?_
      refine jr_bipush (v := 8) x dX6_init_105 (by decide) ?_
      refine jr_icmp_ge (tgt := 131) x dX6_init_107 rfl (fun _ => ?_) (fun h => absurd (nI_le (Nat.le_refl 8) (by decide)) h)
      exact jr_widen (by decide) (by decide) (fin _ _ _ dX6_init_131 ⟨q1, q2, q3, q4, q5, q6, q7, q8, q9, q10, q11, q12, q13, q14, q15, q16, q17, q18, q19, q20, f, α, hf, rfl⟩)
    | succ k ih =>
      intro n α hn
      refine jr_iload_n x dX6_init_104 rfl 0 rfl ?_
      refine jr_bipush (v := 8) x dX6_init_105 (by decide) ?_
      refine jr_icmp_ge (tgt := 131) x dX6_init_107 rfl (fun h => absurd h (nI_ge (a := n) (b := 8) (by omega) (by decide))) (fun _ => ?_)
      refine jr_aload_n x dX6_init_110 rfl 1 rfl ?_
      refine jr_getf x dX6_init_111 rfl (fun w h => List.mem_cons_of_mem _ (inX6 w h)) 2 (by decide) (List.mem_cons_of_mem _ wj_197) 2 rfl rfl ?_
      refine jr_new (ci := 0) (C := RX0) (T := TX0) (N := 15) (fs := [.int 0, .null, .null, .null, .int 0, .int 0, .int 0, .int 0, .int 0, .int 0, .int 0, .int 0, .int 0, .int 0, .int 0]) x tyX0 dX6_init_114 rfl (fun w h => List.mem_cons_of_mem _ (inX0 w h)) tyX0_ok (List.mem_cons_of_mem _ wj_106) (List.mem_cons_of_mem _ wj_107) (List.mem_cons_of_mem _ wj_7) dfX0 (by show 20 + 6 * n + 1 ≤ 68; omega) (by show 355 + 74 * n + 15 ≤ 947; omega) (fun b => ?_)
      refine jr_dup x dX6_init_117 ?_
      refine jr_iload_n x dX6_init_118 rfl 0 rfl ?_
      refine jr_makeI (as := [.int (nI n)]) x (mkX0_init (nI n)) dX6_init_119 (cwI 1 x.2.2.2.2.1 (gT (fun w h => (List.mem_cons.mp h).elim (fun e => by rw [e]; exact kX0_init_in) id)) rfl rfl rfl (x.2.2.2.2.1 _ (List.mem_cons_of_mem _ wj_7)) (x.2.2.2.2.1 _ (List.mem_cons_of_mem _ wj_108)) (x.2.2.2.2.1 _ (List.mem_cons_of_mem _ wj_109)) rfl hX0_init ⟨by decide, by decide⟩) (Nat.le_of_ble_eq_true rfl) ⟨by show 20 + 6 * n + 1 + 5 ≤ 68; omega, by show 355 + 74 * n + 15 + 59 ≤ 947; omega⟩ (fun U hW => z.warm hW) ZZ.blind (fun w1 ho => ?_)
      obtain ⟨u1, u2, u3', u4, u5, rfl⟩ := ho
      obtain ⟨β, hβ⟩ : ∃ β : Nat → aU, β = fun i => if i = n then (b, u1, u2, u3', u4, u5) else α i := ⟨_, rfl⟩
      have hβn : β n = (b, u1, u2, u3', u4, u5) := by rw [hβ]; simp
      have hβo : ∀ i, i < n → β i = α i := fun i hi => by rw [hβ]; simp [Nat.ne_of_lt hi]
      have ea : acts cA α n = acts cA β n := acts_cg n (fun i hi => (hβo i hi).symm)
      have er : rowf α n = fun q => cad (adl q7 q8 β) ((sgl n).2.2 4 1 q) := by
        funext q
        show rowf α n q = cad _ (if 4 = 4 ∧ q < n then some (5, q) else none)
        unfold rowf
        by_cases hq : q < n
        · rw [if_pos hq, if_pos ⟨rfl, hq⟩, ← hβo q hq]; rfl
        · rw [if_neg hq, if_neg (fun z => hq z.2)]; rfl
      have e3 : wl cA (adl q7 q8 β) (sgl n) [(3, 1), (4, 1), (5, n)] = [(q7, .inr (2, [.ref q8, .int (nI n)])), (q8, .inl (cA 2, 8, .inr (.inr (.inr (.inr (rowf α n)))))), (b, .inr (0, [.int (nI n), .ref u1, .ref u2, .ref u5, .int 0, .int 0, .int 0, .int 0, .int 0, .int 0, .int 0, .int 0, .int 0, .int 0, .int 0]))] := by
        rw [ct31, er, hβn]
        rfl
      refine jr_perm (w' := [] ++ (wl cA (adl q7 q8 β) (sgl n) [(3, 1), (4, 1), (5, n)] ++ (baseO cA f a0 q1 q2 q3 q4 q5 q6 q7 q8 q9 q10 q11 q12 q13 q14 q15 q16 q17 q18 q19 q20 ++ (acts cA α n ++ five cA (b, u1, u2, u3', u4, u5))))) ?_ ?_
      · rw [e3]
        exact perm_a
      have hln : LnIs (sgl n) 1 (List.range n) := by
        refine ⟨by rw [List.length_range]; rfl, by rw [List.length_range]; omega, fun q i hq => ?_⟩
        have hql : q < n := by
          have := (List.getElem?_eq_some_iff.mp hq).1
          rwa [List.length_range] at this
        rw [List.getElem?_range hql] at hq
        cases hq
        refine ⟨?_, by omega⟩
        show (if 4 = 4 ∧ q < n then some (5, q) else none) = _
        rw [if_pos ⟨rfl, hql⟩]
      have hb5 : b = adl q7 q8 β 5 n := by
        show b = (β n).1
        rw [hβn]
      rw [show Value.ref b = Value.ref (adl q7 q8 β 5 n) from congrArg Value.ref hb5]
      refine jr_callV (R := riX6_init) (ce := 20 + 6 * n + 1 + 5) (sl := 355 + 74 * n + 15 + 59) (w := []) (k0 := 3) (i0 := 1) (ci := 2) (C := RX2) (T := TX2) (N := 2) (av := [mR 5 n]) (ad := adl q7 q8 β) (st := []) x (c_Line_add2 (cl := [(3, 1), (4, 1), (5, n)]) (by simp) (by simp) hln (by simp) (by rw [List.length_range]; omega)) dX6_init_122 rfl rfl (by simp) (cwT x.2.2.2.2.1 wj_191 wj_192 wj_193 wj_4 kX2_add_in rfl rfl hX2_add (by decide)) (by decide) ⟨by show 20 + 6 * n + 1 + 5 ≤ 68; omega, by show 355 + 74 * n + 15 + 59 ≤ 947; omega⟩ (fun r τ hp => ?_)
      obtain ⟨rfl, rfl⟩ := hp
      rw [List.length_range]
      have er2 : (fun q => cad (adl q7 q8 β) ((sI (sR (sgl n) 4 1 n (some (5, n))) 3 1 1 (nI (n + 1))).2.2 4 1 q)) = rowf β (n + 1) := by
        funext q
        show cad _ (u3 (sgl n).2.2 4 1 n (some (5, n)) 4 1 q) = rowf β (n + 1) q
        unfold u3 rowf
        by_cases hq : q = n
        · subst hq
          rw [if_pos ⟨rfl, rfl, rfl⟩, if_pos (by omega)]
          rfl
        · rw [if_neg (fun z => hq z.2.1)]
          show cad _ (if 4 = 4 ∧ q < n then some (5, q) else none) = _
          by_cases hq2 : q < n
          · rw [if_pos ⟨rfl, hq2⟩, if_pos (by omega)]; rfl
          · rw [if_neg (fun z => hq2 z.2), if_neg (by omega)]; rfl
      have e4 : wl cA (adl q7 q8 β) (sI (sR (sgl n) 4 1 n (some (5, n))) 3 1 1 (nI (n + 1))) [(3, 1), (4, 1), (5, n)] = [(q7, .inr (2, [.ref q8, .int (nI (n + 1))])), (q8, .inl (cA 2, 8, .inr (.inr (.inr (.inr (rowf β (n + 1))))))), (b, .inr (0, [.int (nI n), .ref u1, .ref u2, .ref u5, .int 0, .int 0, .int 0, .int 0, .int 0, .int 0, .int 0, .int 0, .int 0, .int 0, .int 0]))] := by
        rw [ct31, er2, hβn]
        rfl
      refine jr_perm (w' := ln1 cA q7 q8 (n + 1) (rowf β (n + 1)) ++ (baseO cA f a0 q1 q2 q3 q4 q5 q6 q7 q8 q9 q10 q11 q12 q13 q14 q15 q16 q17 q18 q19 q20 ++ acts cA β (n + 1))) ?_ ?_
      · rw [e4, acts, hβn, ← ea, six_eq]
        have := (perm_a (x := (q7, (.inr (2, [.ref q8, .int (nI (n + 1))]) : va_E))) (y := (q8, (.inl (cA 2, 8, .inr (.inr (.inr (.inr (rowf β (n + 1)))))) : va_E))) (b := (b, (.inr (0, [.int (nI n), .ref u1, .ref u2, .ref u5, .int 0, .int 0, .int 0, .int 0, .int 0, .int 0, .int 0, .int 0, .int 0, .int 0, .int 0]) : va_E))) (B := baseO cA f a0 q1 q2 q3 q4 q5 q6 q7 q8 q9 q10 q11 q12 q13 q14 q15 q16 q17 q18 q19 q20) (T := acts cA α n) (F := five cA (b, u1, u2, u3', u4, u5))).symm
        rw [List.append_assoc, List.append_assoc] at this
        exact this
      refine jr_iinc x dX6_init_125 0 rfl (nI_1 n) (by decide) (lv' := [(1, .int (nI (n + 1))), (0, .ref a0)]) rfl ?_
      refine jr_goto (tgt := 104) x dX6_init_128 rfl ?_
      exact jr_widen (by omega) (by omega) (ih (n + 1) β (by omega))
  refine jr_sub [7, 8, 0, 1, 2, 3, 4, 5, 6, 9, 10, 11, 12, 13, 14, 15, 16, 17, 18, 19, 20] (by decide) (w' := ln1 cA q7 q8 0 (rowf (fun _ => (0, 0, 0, 0, 0, 0)) 0) ++ (baseO cA f a0 q1 q2 q3 q4 q5 q6 q7 q8 q9 q10 q11 q12 q13 q14 q15 q16 q17 q18 q19 q20 ++ acts cA (fun _ => (0, 0, 0, 0, 0, 0)) 0)) rfl rfl ?_
  exact loop 8 0 (fun _ => (0, 0, 0, 0, 0, 0)) rfl
