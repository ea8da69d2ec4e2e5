/-! Constructors of Code and MailYard. Written by gen_init.py. -/
theorem wi_24 : (Jvm.Cond.methodLink "MailYard$Code" (1 : Nat) ({ cls := "java/lang/Object", name := "<init>", desc := "()V" } : Jvm.MethodName)) ∈ wT := inT1 (i := 24) rfl rfl
theorem wi_28 : (Jvm.Cond.fieldLink "MailYard$Code" (9 : Nat) "MailYard$Code" "ops" "[I") ∈ wT := inT1 (i := 28) rfl rfl
theorem wi_30 : (Jvm.Cond.fieldLink "MailYard$Code" (13 : Nat) "MailYard$Code" "firsts" "[I") ∈ wT := inT1 (i := 30) rfl rfl
theorem wi_32 : (Jvm.Cond.fieldLink "MailYard$Code" (16 : Nat) "MailYard$Code" "seconds" "[I") ∈ wT := inT1 (i := 32) rfl rfl
theorem wi_25 : (Jvm.Cond.methodLink "MailYard$Code" (19 : Nat) ({ cls := "java/util/Arrays", name := "fill", desc := "([II)V" } : Jvm.MethodName)) ∈ wT := inT1 (i := 25) rfl rfl
theorem wi_3 : (Jvm.Cond.initialized "java/util/Arrays") ∈ wT := inT1 (i := 3) rfl rfl
theorem wi_26 : (Jvm.Cond.static ({ cls := "java/util/Arrays", name := "fill", desc := "([II)V" } : Jvm.MethodName)) ∈ wT := inT1 (i := 26) rfl rfl
theorem wi_16 : (Jvm.Cond.methodLink "MailYard" (1 : Nat) ({ cls := "java/lang/Object", name := "<init>", desc := "()V" } : Jvm.MethodName)) ∈ wT := inT1 (i := 16) rfl rfl
theorem wi_19 : (Jvm.Cond.classLink "MailYard" (7 : Nat) "MailYard$Code") ∈ wT := inT1 (i := 19) rfl rfl
theorem wi_20 : (Jvm.Cond.instantiable "MailYard$Code" (3 : Nat)) ∈ wT := inT1 (i := 20) rfl rfl
theorem wi_2 : (Jvm.Cond.initialized "MailYard$Code") ∈ wT := inT1 (i := 2) rfl rfl
theorem wi_21 : (Jvm.Cond.methodLink "MailYard" (9 : Nat) ({ cls := "MailYard$Code", name := "<init>", desc := "()V" } : Jvm.MethodName)) ∈ wT := inT1 (i := 21) rfl rfl
theorem wi_22 : (Jvm.Cond.instanceMethod ({ cls := "MailYard$Code", name := "<init>", desc := "()V" } : Jvm.MethodName)) ∈ wT := inT1 (i := 22) rfl rfl
theorem wi_195 : (Jvm.Cond.fieldLink "MailYard" (10 : Nat) "MailYard" "code" "LMailYard$Code;") ∈ wT := inT1 (i := 195) rfl rfl
theorem wi_42 : (Jvm.Cond.classLink "MailYard" (16 : Nat) "MailYard$Line") ∈ wT := inT1 (i := 42) rfl rfl
theorem wi_43 : (Jvm.Cond.instantiable "MailYard$Line" (2 : Nat)) ∈ wT := inT1 (i := 43) rfl rfl
theorem wi_4 : (Jvm.Cond.initialized "MailYard$Line") ∈ wT := inT1 (i := 4) rfl rfl
theorem wi_45 : (Jvm.Cond.instanceMethod ({ cls := "MailYard$Line", name := "<init>", desc := "()V" } : Jvm.MethodName)) ∈ wT := inT1 (i := 45) rfl rfl
theorem wi_196 : (Jvm.Cond.fieldLink "MailYard" (19 : Nat) "MailYard" "alive" "LMailYard$Line;") ∈ wT := inT1 (i := 196) rfl rfl
theorem wi_197 : (Jvm.Cond.fieldLink "MailYard" (23 : Nat) "MailYard" "spare" "LMailYard$Line;") ∈ wT := inT1 (i := 197) rfl rfl
theorem wi_198 : (Jvm.Cond.fieldLink "MailYard" (26 : Nat) "MailYard" "ready" "LMailYard$Line;") ∈ wT := inT1 (i := 198) rfl rfl
theorem wi_199 : (Jvm.Cond.fieldLink "MailYard" (29 : Nat) "MailYard" "endings" "LMailYard$Line;") ∈ wT := inT1 (i := 199) rfl rfl
theorem wi_59 : (Jvm.Cond.classLink "MailYard" (32 : Nat) "MailYard$Timers") ∈ wT := inT1 (i := 59) rfl rfl
theorem wi_60 : (Jvm.Cond.instantiable "MailYard$Timers" (5 : Nat)) ∈ wT := inT1 (i := 60) rfl rfl
theorem wi_5 : (Jvm.Cond.initialized "MailYard$Timers") ∈ wT := inT1 (i := 5) rfl rfl
theorem wi_62 : (Jvm.Cond.instanceMethod ({ cls := "MailYard$Timers", name := "<init>", desc := "()V" } : Jvm.MethodName)) ∈ wT := inT1 (i := 62) rfl rfl
theorem wi_200 : (Jvm.Cond.fieldLink "MailYard" (35 : Nat) "MailYard" "clock" "LMailYard$Timers;") ∈ wT := inT1 (i := 200) rfl rfl
theorem wi_87 : (Jvm.Cond.classLink "MailYard" (39 : Nat) "MailYard$Outputs") ∈ wT := inT1 (i := 87) rfl rfl
theorem wi_88 : (Jvm.Cond.instantiable "MailYard$Outputs" (3 : Nat)) ∈ wT := inT1 (i := 88) rfl rfl
theorem wi_6 : (Jvm.Cond.initialized "MailYard$Outputs") ∈ wT := inT1 (i := 6) rfl rfl
theorem wi_90 : (Jvm.Cond.instanceMethod ({ cls := "MailYard$Outputs", name := "<init>", desc := "()V" } : Jvm.MethodName)) ∈ wT := inT1 (i := 90) rfl rfl
theorem wi_201 : (Jvm.Cond.fieldLink "MailYard" (42 : Nat) "MailYard" "outputs" "LMailYard$Outputs;") ∈ wT := inT1 (i := 201) rfl rfl
theorem wi_202 : (Jvm.Cond.fieldLink "MailYard" (46 : Nat) "MailYard" "now" "J") ∈ wT := inT1 (i := 202) rfl rfl
theorem wi_203 : (Jvm.Cond.fieldLink "MailYard" (50 : Nat) "MailYard" "freeCells" "I") ∈ wT := inT1 (i := 203) rfl rfl
theorem wi_204 : (Jvm.Cond.fieldLink "MailYard" (54 : Nat) "MailYard" "lostMessages" "I") ∈ wT := inT1 (i := 204) rfl rfl
theorem wi_205 : (Jvm.Cond.fieldLink "MailYard" (57 : Nat) "MailYard" "lastId" "I") ∈ wT := inT1 (i := 205) rfl rfl
theorem dX1_init_0 : decode cX1_init 0 = .ok (.aload_n 0, 1) := by decide +kernel
theorem dX1_init_1 : decode cX1_init 1 = .ok (.invokespecial 1, 3) := by decide +kernel
theorem dX1_init_4 : decode cX1_init 4 = .ok (.aload_n 0, 1) := by decide +kernel
theorem dX1_init_5 : decode cX1_init 5 = .ok (.bipush 48, 2) := by decide +kernel
theorem dX1_init_7 : decode cX1_init 7 = .ok (.newarray .int, 2) := by decide +kernel
theorem dX1_init_9 : decode cX1_init 9 = .ok (.putfield 9, 3) := by decide +kernel
theorem dX1_init_12 : decode cX1_init 12 = .ok (.aload_n 0, 1) := by decide +kernel
theorem dX1_init_13 : decode cX1_init 13 = .ok (.bipush 48, 2) := by decide +kernel
theorem dX1_init_15 : decode cX1_init 15 = .ok (.newarray .int, 2) := by decide +kernel
theorem dX1_init_17 : decode cX1_init 17 = .ok (.putfield 13, 3) := by decide +kernel
theorem dX1_init_20 : decode cX1_init 20 = .ok (.aload_n 0, 1) := by decide +kernel
theorem dX1_init_21 : decode cX1_init 21 = .ok (.bipush 48, 2) := by decide +kernel
theorem dX1_init_23 : decode cX1_init 23 = .ok (.newarray .int, 2) := by decide +kernel
theorem dX1_init_25 : decode cX1_init 25 = .ok (.putfield 16, 3) := by decide +kernel
theorem dX1_init_28 : decode cX1_init 28 = .ok (.aload_n 0, 1) := by decide +kernel
theorem dX1_init_29 : decode cX1_init 29 = .ok (.getfield 9, 3) := by decide +kernel
theorem dX1_init_32 : decode cX1_init 32 = .ok (.iconst (-1), 1) := by decide +kernel
theorem dX1_init_33 : decode cX1_init 33 = .ok (.invokestatic 19, 3) := by decide +kernel
theorem dX1_init_36 : decode cX1_init 36 = .ok (.return_, 1) := by decide +kernel
theorem dX6_init_0 : decode cX6_init 0 = .ok (.aload_n 0, 1) := by decide +kernel
theorem dX6_init_1 : decode cX6_init 1 = .ok (.invokespecial 1, 3) := by decide +kernel
theorem dX6_init_4 : decode cX6_init 4 = .ok (.aload_n 0, 1) := by decide +kernel
theorem dX6_init_5 : decode cX6_init 5 = .ok (.new 7, 3) := by decide +kernel
theorem dX6_init_8 : decode cX6_init 8 = .ok (.dup, 1) := by decide +kernel
theorem dX6_init_9 : decode cX6_init 9 = .ok (.invokespecial 9, 3) := by decide +kernel
theorem dX6_init_12 : decode cX6_init 12 = .ok (.putfield 10, 3) := by decide +kernel
theorem dX6_init_15 : decode cX6_init 15 = .ok (.aload_n 0, 1) := by decide +kernel
theorem dX6_init_16 : decode cX6_init 16 = .ok (.new 16, 3) := by decide +kernel
theorem dX6_init_19 : decode cX6_init 19 = .ok (.dup, 1) := by decide +kernel
theorem dX6_init_20 : decode cX6_init 20 = .ok (.invokespecial 18, 3) := by decide +kernel
theorem dX6_init_23 : decode cX6_init 23 = .ok (.putfield 19, 3) := by decide +kernel
theorem dX6_init_26 : decode cX6_init 26 = .ok (.aload_n 0, 1) := by decide +kernel
theorem dX6_init_27 : decode cX6_init 27 = .ok (.new 16, 3) := by decide +kernel
theorem dX6_init_30 : decode cX6_init 30 = .ok (.dup, 1) := by decide +kernel
theorem dX6_init_31 : decode cX6_init 31 = .ok (.invokespecial 18, 3) := by decide +kernel
theorem dX6_init_34 : decode cX6_init 34 = .ok (.putfield 23, 3) := by decide +kernel
theorem dX6_init_37 : decode cX6_init 37 = .ok (.aload_n 0, 1) := by decide +kernel
theorem dX6_init_38 : decode cX6_init 38 = .ok (.new 16, 3) := by decide +kernel
theorem dX6_init_41 : decode cX6_init 41 = .ok (.dup, 1) := by decide +kernel
theorem dX6_init_42 : decode cX6_init 42 = .ok (.invokespecial 18, 3) := by decide +kernel
theorem dX6_init_45 : decode cX6_init 45 = .ok (.putfield 26, 3) := by decide +kernel
theorem dX6_init_48 : decode cX6_init 48 = .ok (.aload_n 0, 1) := by decide +kernel
theorem dX6_init_49 : decode cX6_init 49 = .ok (.new 16, 3) := by decide +kernel
theorem dX6_init_52 : decode cX6_init 52 = .ok (.dup, 1) := by decide +kernel
theorem dX6_init_53 : decode cX6_init 53 = .ok (.invokespecial 18, 3) := by decide +kernel
theorem dX6_init_56 : decode cX6_init 56 = .ok (.putfield 29, 3) := by decide +kernel
theorem dX6_init_59 : decode cX6_init 59 = .ok (.aload_n 0, 1) := by decide +kernel
theorem dX6_init_60 : decode cX6_init 60 = .ok (.new 32, 3) := by decide +kernel
theorem dX6_init_63 : decode cX6_init 63 = .ok (.dup, 1) := by decide +kernel
theorem dX6_init_64 : decode cX6_init 64 = .ok (.invokespecial 34, 3) := by decide +kernel
theorem dX6_init_67 : decode cX6_init 67 = .ok (.putfield 35, 3) := by decide +kernel
theorem dX6_init_70 : decode cX6_init 70 = .ok (.aload_n 0, 1) := by decide +kernel
theorem dX6_init_71 : decode cX6_init 71 = .ok (.new 39, 3) := by decide +kernel
theorem dX6_init_74 : decode cX6_init 74 = .ok (.dup, 1) := by decide +kernel
theorem dX6_init_75 : decode cX6_init 75 = .ok (.invokespecial 41, 3) := by decide +kernel
theorem dX6_init_78 : decode cX6_init 78 = .ok (.putfield 42, 3) := by decide +kernel
theorem dX6_init_81 : decode cX6_init 81 = .ok (.aload_n 0, 1) := by decide +kernel
theorem dX6_init_82 : decode cX6_init 82 = .ok (.lconst 0, 1) := by decide +kernel
theorem dX6_init_83 : decode cX6_init 83 = .ok (.putfield 46, 3) := by decide +kernel
theorem dX6_init_86 : decode cX6_init 86 = .ok (.aload_n 0, 1) := by decide +kernel
theorem dX6_init_87 : decode cX6_init 87 = .ok (.bipush 24, 2) := by decide +kernel
theorem dX6_init_89 : decode cX6_init 89 = .ok (.putfield 50, 3) := by decide +kernel
theorem dX6_init_92 : decode cX6_init 92 = .ok (.aload_n 0, 1) := by decide +kernel
theorem dX6_init_93 : decode cX6_init 93 = .ok (.iconst 0, 1) := by decide +kernel
theorem dX6_init_94 : decode cX6_init 94 = .ok (.putfield 54, 3) := by decide +kernel
theorem dX6_init_97 : decode cX6_init 97 = .ok (.aload_n 0, 1) := by decide +kernel
theorem dX6_init_98 : decode cX6_init 98 = .ok (.iconst 0, 1) := by decide +kernel
theorem dX6_init_99 : decode cX6_init 99 = .ok (.putfield 57, 3) := by decide +kernel
theorem dX6_init_102 : decode cX6_init 102 = .ok (.iconst 0, 1) := by decide +kernel
theorem dX6_init_103 : decode cX6_init 103 = .ok (.istore_n 1, 1) := by decide +kernel
theorem dX6_init_104 : decode cX6_init 104 = .ok (.iload_n 1, 1) := by decide +kernel
theorem dX6_init_105 : decode cX6_init 105 = .ok (.bipush 8, 2) := by decide +kernel
theorem dX6_init_107 : decode cX6_init 107 = .ok (.if_icmp .ge 24, 3) := by decide +kernel
theorem dX6_init_110 : decode cX6_init 110 = .ok (.aload_n 0, 1) := by decide +kernel
theorem dX6_init_111 : decode cX6_init 111 = .ok (.getfield 23, 3) := by decide +kernel
theorem dX6_init_114 : decode cX6_init 114 = .ok (.new 60, 3) := by decide +kernel
theorem dX6_init_117 : decode cX6_init 117 = .ok (.dup, 1) := by decide +kernel
theorem dX6_init_118 : decode cX6_init 118 = .ok (.iload_n 1, 1) := by decide +kernel
theorem dX6_init_119 : decode cX6_init 119 = .ok (.invokespecial 62, 3) := by decide +kernel
theorem dX6_init_122 : decode cX6_init 122 = .ok (.invokevirtual 65, 3) := by decide +kernel
theorem dX6_init_125 : decode cX6_init 125 = .ok (.iinc 1 1, 3) := by decide +kernel
theorem dX6_init_128 : decode cX6_init 128 = .ok (.goto (-24), 3) := by decide +kernel
theorem dX6_init_131 : decode cX6_init 131 = .ok (.return_, 1) := by decide +kernel
abbrev riX1_init : Room := { frames := 1, cells := 3, slots := 144, locals := 40 }
abbrev s00 : mS := (fun _ _ _ => 0, fun _ _ _ => 0, fun _ _ _ => none)
def ouX1_init : (Nat → ClassId) → Nat → va_W → Prop := fun cA a0 w => ∃ q1 q2 q3 : Nat, ∃ f : Nat → Int32, (∀ p, p < 48 → f p = -1) ∧ w = [(a0, .inr (1, [.ref q1, .ref q2, .ref q3])), (q1, .inl (cA 0, 48, .inl f)), (q2, .inl (cA 0, 48, .inl (fun _ => 0))), (q3, .inl (cA 0, 48, .inl (fun _ => 0)))]
theorem mkX1_init : Makes yX1_init (kX1_init :: wT) riX1_init 3 144 1 [.null, .null, .null] [] ZZ ouX1_init := by
  refine Makes.of rfl (by decide) rfl rfl (fun _ => Nat.le_of_ble_eq_true rfl) ?_
  intro p l e s m args below meth c D cA A a0 Q x hini z fin
  refine jr_aload_n x dX1_init_0 rfl 0 rfl ?_
  refine jr_obj x dX1_init_1 (List.mem_cons_of_mem _ wi_24) (List.mem_cons_of_mem _ wi_17) (List.mem_cons_of_mem _ wi_18) (by decide) (by decide) ?_
  refine jr_aload_n x dX1_init_4 rfl 0 rfl ?_
  refine jr_bipush (v := 48) x dX1_init_5 (by decide) ?_
  refine jr_newa (t := 0) (ty := .int) (N := 48) (a0 := (48, .inl (fun _ => 0))) x dX1_init_7 rfl (List.mem_cons_of_mem _ wi_41) rfl (fun _ => rfl) (by decide) (by decide) (by decide) (by decide) (by decide) (fun q1 => ?_)
  refine jr_putF x hini tyX1 dX1_init_9 rfl (fun w h => List.mem_cons_of_mem _ (inX1 w h)) tyX1_ok nmX1 0 (by decide) (List.mem_cons_of_mem _ wi_28) rfl rfl rfl rfl 0 rfl (Nat.le_of_ble_eq_true rfl) (w' := [(a0, .inr (1, [.ref q1, .null, .null])), (q1, .inl (cA 0, 48, .inl (fun _ => 0)))]) rfl ?_
  refine jr_aload_n x dX1_init_12 rfl 0 rfl ?_
  refine jr_bipush (v := 48) x dX1_init_13 (by decide) ?_
  refine jr_newa (t := 0) (ty := .int) (N := 48) (a0 := (48, .inl (fun _ => 0))) x dX1_init_15 rfl (List.mem_cons_of_mem _ wi_41) rfl (fun _ => rfl) (by decide) (by decide) (by decide) (by decide) (by decide) (fun q2 => ?_)
  refine jr_putF x hini tyX1 dX1_init_17 rfl (fun w h => List.mem_cons_of_mem _ (inX1 w h)) tyX1_ok nmX1 1 (by decide) (List.mem_cons_of_mem _ wi_30) rfl rfl rfl rfl 0 rfl (Nat.le_of_ble_eq_true rfl) (w' := [(a0, .inr (1, [.ref q1, .ref q2, .null])), (q1, .inl (cA 0, 48, .inl (fun _ => 0))), (q2, .inl (cA 0, 48, .inl (fun _ => 0)))]) rfl ?_
  refine jr_aload_n x dX1_init_20 rfl 0 rfl ?_
  refine jr_bipush (v := 48) x dX1_init_21 (by decide) ?_
  refine jr_newa (t := 0) (ty := .int) (N := 48) (a0 := (48, .inl (fun _ => 0))) x dX1_init_23 rfl (List.mem_cons_of_mem _ wi_41) rfl (fun _ => rfl) (by decide) (by decide) (by decide) (by decide) (by decide) (fun q3 => ?_)
  refine jr_putF x hini tyX1 dX1_init_25 rfl (fun w h => List.mem_cons_of_mem _ (inX1 w h)) tyX1_ok nmX1 2 (by decide) (List.mem_cons_of_mem _ wi_32) rfl rfl rfl rfl 0 rfl (Nat.le_of_ble_eq_true rfl) (w' := [(a0, .inr (1, [.ref q1, .ref q2, .ref q3])), (q1, .inl (cA 0, 48, .inl (fun _ => 0))), (q2, .inl (cA 0, 48, .inl (fun _ => 0))), (q3, .inl (cA 0, 48, .inl (fun _ => 0)))]) rfl ?_
  refine jr_aload_n x dX1_init_28 rfl 0 rfl ?_
  refine jr_getf x dX1_init_29 rfl (fun w h => List.mem_cons_of_mem _ (inX1 w h)) 0 (by decide) (List.mem_cons_of_mem _ wi_28) 0 rfl rfl ?_
  refine jr_iconst (v := -1) x dX1_init_32 (by decide) ?_
  refine jr_callS (w := [(a0, .inr (1, [.ref q1, .ref q2, .ref q3]))]) (w2 := [(q2, .inl (cA 0, 48, .inl (fun _ => 0))), (q3, .inl (cA 0, 48, .inl (fun _ => 0)))]) (ad := fun _ _ => q1) (σ := s00) (cl := [(2, 0)]) (av := [mR 2 0, mI (-1)]) (st := []) x (c_fill2 (i := 0) (List.mem_singleton.mpr rfl) (-1)) dX1_init_33 ⟨cbT x.2.2.2.2.1 wi_25 wi_3 kJ_fillI_in rfl rfl hJ_fillI (by decide), x.2.2.2.2.1 _ (List.mem_cons_of_mem _ wi_26)⟩ (by decide) (by decide) (fun r τ hp => ?_)
  obtain ⟨rfl, h1, h2⟩ := hp
  exact jr_widen (by decide) (by decide) (fin _ _ _ dX1_init_36 ⟨q1, q2, q3, τ.1 2 0, fun p hp => by rw [h2]; simp [hp], rfl⟩)
abbrev riX6_init : Room := { frames := 5, cells := 68, slots := 947, locals := 120 }
abbrev aU : Type := Nat × Nat × Nat × Nat × Nat × Nat
/-- the cells of an actor: itself, registers, mailbox, its two rows, times -/
def six (cA : Nat → ClassId) (u : aU) (n : Nat) : va_W := [(u.1, .inr (0, [.int (nI n), .ref u.2.1, .ref u.2.2.1, .ref u.2.2.2.2.2, .int 0, .int 0, .int 0, .int 0, .int 0, .int 0, .int 0, .int 0, .int 0, .int 0, .int 0])), (u.2.1, .inl (cA 0, 4, .inl (fun _ => 0))), (u.2.2.1, .inr (3, [.ref u.2.2.2.1, .ref u.2.2.2.2.1, .int 0, .int 0])), (u.2.2.2.1, .inl (cA 0, 24, .inl (fun _ => 0))), (u.2.2.2.2.1, .inl (cA 0, 24, .inl (fun _ => 0))), (u.2.2.2.2.2, .inl (cA 1, 3, .inr (.inl (fun _ => 0))))]
def acts (cA : Nat → ClassId) (α : Nat → aU) : Nat → va_W
  | 0 => []
  | n + 1 => acts cA α n ++ six cA (α n) n
theorem acts_cg {cA : Nat → ClassId} {α β : Nat → aU} : ∀ (n : Nat), (∀ i, i < n → α i = β i) → acts cA α n = acts cA β n
  | 0, _ => rfl
  | n + 1, h => by rw [acts, acts, acts_cg n (fun i hi => h i (by omega)), h n (by omega)]
def rowf (α : Nat → aU) (n : Nat) : Nat → Option Nat := fun p => if p < n then some (α p).1 else none
def baseO (cA : Nat → ClassId) (f : Nat → Int32) (a0 q1 q2 q3 q4 q5 q6 q7 q8 q9 q10 q11 q12 q13 q14 q15 q16 q17 q18 q19 q20 : Nat) : va_W := [(a0, .inr (6, [.ref q1, .ref q5, .ref q7, .ref q9, .ref q11, .ref q13, .ref q18, .long 0, .int 24, .int 0, .int 0])), (q1, .inr (1, [.ref q2, .ref q3, .ref q4])), (q2, .inl (cA 0, 48, .inl f)), (q3, .inl (cA 0, 48, .inl (fun _ => 0))), (q4, .inl (cA 0, 48, .inl (fun _ => 0))), (q5, .inr (2, [.ref q6, .int 0])), (q6, .inl (cA 2, 8, .inr (.inr (.inr (.inr (fun _ => none)))))), (q9, .inr (2, [.ref q10, .int 0])), (q10, .inl (cA 2, 8, .inr (.inr (.inr (.inr (fun _ => none)))))), (q11, .inr (2, [.ref q12, .int 0])), (q12, .inl (cA 2, 8, .inr (.inr (.inr (.inr (fun _ => none)))))), (q13, .inr (5, [.ref q14, .ref q15, .ref q16, .ref q17, .int 0])), (q14, .inl (cA 0, 10, .inl (fun _ => 0))), (q15, .inl (cA 0, 10, .inl (fun _ => 0))), (q16, .inl (cA 3, 10, .inl (fun _ => 0))), (q17, .inl (cA 1, 10, .inr (.inl (fun _ => 0)))), (q18, .inr (4, [.ref q19, .ref q20, .int 0])), (q19, .inl (cA 0, 60, .inl (fun _ => 0))), (q20, .inl (cA 0, 60, .inl (fun _ => 0)))]
theorem c_Line_add2 {cl : mC} {σ : mS} {j : Nat} {xs : List Nat} (m3 : (3, j) ∈ cl) (m4 : (4, j) ∈ cl) (h : LnIs σ j xs) {i : Nat} (m5 : (5, i) ∈ cl) (hl : xs.length < 8) : Meets cl yX2_add (kX2_add :: wT) rX2_add [mR 3 j, mR 5 i] σ (fun r τ => r = none ∧ τ = sI (sR σ 4 j xs.length (some (5, i))) 3 j 1 (nI (xs.length + 1))) := by
  refine Meets.of SX2_add rfl (by decide) rfl (Nat.le_of_ble_eq_true rfl) ?_
  intro J hJ
  refine stp_j hJ 4 ⟨m3, _, h.1, fun h2 => ?_, fun h2 => ?_⟩
  · exact absurd h2 (nI_ge hl (by decide))
  · refine stp_j hJ 6 ⟨m3, m3, _, h.1, m4, xs.length, ix_nI hl (by decide), m5, trivial, ?_⟩
    exact stp_j hJ 7 ⟨m3, _, h.1, _, nI_1 _, m3, rfl, rfl⟩
def sgl (n : Nat) : mS := ((fun k i p => if k = 3 ∧ p = 1 then nI n else if k = 5 ∧ p = 0 then nI i else 0, fun _ _ _ => 0, fun k _ p => if k = 4 ∧ p < n then some (5, p) else none) : mS)
def adl (l1 r1 : Nat) (α : Nat → aU) : Nat → Nat → Nat := fun k i => if k = 3 then l1 else if k = 4 then r1 else if k = 5 then (α i).1 else if k = 6 then (α i).2.1 else if k = 8 then (α i).2.2.1 else (α i).2.2.2.2.2
