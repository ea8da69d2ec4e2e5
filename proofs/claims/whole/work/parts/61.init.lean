/-! Constructors: words, instructions, walks. Written by gen_init.py. -/
theorem wi_47 : (Jvm.Cond.methodLink "MailYard$Line" (3 : Nat) ({ cls := "java/lang/Object", name := "<init>", desc := "()V" } : Jvm.MethodName)) ∈ wT := inT1 (i := 47) rfl rfl
theorem wi_17 : (Jvm.Cond.instanceMethod ({ cls := "java/lang/Object", name := "<init>", desc := "()V" } : Jvm.MethodName)) ∈ wT := inT1 (i := 17) rfl rfl
theorem wi_18 : (Jvm.Cond.code ({ cls := "java/lang/Object", name := "<init>", desc := "()V" } : Jvm.MethodName) object_method_1_code (1 : Nat) (Option.none : Option Jvm.ClassFile.FieldType)) ∈ wT := inT1 (i := 18) rfl rfl
theorem wi_48 : (Jvm.Cond.classLink "MailYard$Line" (9 : Nat) "MailYard$Actor") ∈ wT := inT1 (i := 48) rfl rfl
theorem wi_50 : (Jvm.Cond.fieldLink "MailYard$Line" (11 : Nat) "MailYard$Line" "row" "[LMailYard$Actor;") ∈ wT := inT1 (i := 50) rfl rfl
theorem wi_52 : (Jvm.Cond.fieldLink "MailYard$Line" (17 : Nat) "MailYard$Line" "size" "I") ∈ wT := inT1 (i := 52) rfl rfl
theorem wi_117 : (Jvm.Cond.methodLink "MailYard$Mailbox" (3 : Nat) ({ cls := "java/lang/Object", name := "<init>", desc := "()V" } : Jvm.MethodName)) ∈ wT := inT1 (i := 117) rfl rfl
theorem wi_41 : (Jvm.Cond.arrayClass Jvm.ClassFile.FieldType.int) ∈ wT := inT1 (i := 41) rfl rfl
theorem wi_118 : (Jvm.Cond.fieldLink "MailYard$Mailbox" (9 : Nat) "MailYard$Mailbox" "values" "[I") ∈ wT := inT1 (i := 118) rfl rfl
theorem wi_119 : (Jvm.Cond.fieldLink "MailYard$Mailbox" (15 : Nat) "MailYard$Mailbox" "senders" "[I") ∈ wT := inT1 (i := 119) rfl rfl
theorem wi_120 : (Jvm.Cond.fieldLink "MailYard$Mailbox" (18 : Nat) "MailYard$Mailbox" "head" "I") ∈ wT := inT1 (i := 120) rfl rfl
theorem wi_121 : (Jvm.Cond.fieldLink "MailYard$Mailbox" (22 : Nat) "MailYard$Mailbox" "size" "I") ∈ wT := inT1 (i := 121) rfl rfl
theorem wi_92 : (Jvm.Cond.methodLink "MailYard$Outputs" (1 : Nat) ({ cls := "java/lang/Object", name := "<init>", desc := "()V" } : Jvm.MethodName)) ∈ wT := inT1 (i := 92) rfl rfl
theorem wi_93 : (Jvm.Cond.fieldLink "MailYard$Outputs" (9 : Nat) "MailYard$Outputs" "values" "[I") ∈ wT := inT1 (i := 93) rfl rfl
theorem wi_95 : (Jvm.Cond.fieldLink "MailYard$Outputs" (13 : Nat) "MailYard$Outputs" "authors" "[I") ∈ wT := inT1 (i := 95) rfl rfl
theorem wi_97 : (Jvm.Cond.fieldLink "MailYard$Outputs" (16 : Nat) "MailYard$Outputs" "size" "I") ∈ wT := inT1 (i := 97) rfl rfl
theorem wi_64 : (Jvm.Cond.methodLink "MailYard$Timers" (1 : Nat) ({ cls := "java/lang/Object", name := "<init>", desc := "()V" } : Jvm.MethodName)) ∈ wT := inT1 (i := 64) rfl rfl
theorem wi_65 : (Jvm.Cond.fieldLink "MailYard$Timers" (9 : Nat) "MailYard$Timers" "owners" "[I") ∈ wT := inT1 (i := 65) rfl rfl
theorem wi_67 : (Jvm.Cond.fieldLink "MailYard$Timers" (13 : Nat) "MailYard$Timers" "values" "[I") ∈ wT := inT1 (i := 67) rfl rfl
theorem wi_85 : (Jvm.Cond.arrayClass Jvm.ClassFile.FieldType.boolean) ∈ wT := inT1 (i := 85) rfl rfl
theorem wi_69 : (Jvm.Cond.fieldLink "MailYard$Timers" (16 : Nat) "MailYard$Timers" "limits" "[Z") ∈ wT := inT1 (i := 69) rfl rfl
theorem wi_86 : (Jvm.Cond.arrayClass Jvm.ClassFile.FieldType.long) ∈ wT := inT1 (i := 86) rfl rfl
theorem wi_71 : (Jvm.Cond.fieldLink "MailYard$Timers" (20 : Nat) "MailYard$Timers" "ends" "[J") ∈ wT := inT1 (i := 71) rfl rfl
theorem wi_72 : (Jvm.Cond.fieldLink "MailYard$Timers" (24 : Nat) "MailYard$Timers" "size" "I") ∈ wT := inT1 (i := 72) rfl rfl
theorem wi_111 : (Jvm.Cond.methodLink "MailYard$Actor" (1 : Nat) ({ cls := "java/lang/Object", name := "<init>", desc := "()V" } : Jvm.MethodName)) ∈ wT := inT1 (i := 111) rfl rfl
theorem wi_133 : (Jvm.Cond.fieldLink "MailYard$Actor" (9 : Nat) "MailYard$Actor" "registers" "[I") ∈ wT := inT1 (i := 133) rfl rfl
theorem wi_112 : (Jvm.Cond.classLink "MailYard$Actor" (13 : Nat) "MailYard$Mailbox") ∈ wT := inT1 (i := 112) rfl rfl
theorem wi_113 : (Jvm.Cond.instantiable "MailYard$Mailbox" (4 : Nat)) ∈ wT := inT1 (i := 113) rfl rfl
theorem wi_8 : (Jvm.Cond.initialized "MailYard$Mailbox") ∈ wT := inT1 (i := 8) rfl rfl
theorem wi_115 : (Jvm.Cond.instanceMethod ({ cls := "MailYard$Mailbox", name := "<init>", desc := "()V" } : Jvm.MethodName)) ∈ wT := inT1 (i := 115) rfl rfl
theorem wi_135 : (Jvm.Cond.fieldLink "MailYard$Actor" (16 : Nat) "MailYard$Actor" "mailbox" "LMailYard$Mailbox;") ∈ wT := inT1 (i := 135) rfl rfl
theorem wi_137 : (Jvm.Cond.fieldLink "MailYard$Actor" (20 : Nat) "MailYard$Actor" "timesBegunAnew" "[J") ∈ wT := inT1 (i := 137) rfl rfl
theorem wi_132 : (Jvm.Cond.fieldLink "MailYard$Actor" (24 : Nat) "MailYard$Actor" "slot" "I") ∈ wT := inT1 (i := 132) rfl rfl
theorem wi_487 : (Jvm.Cond.methodLink "MailYardModel" (1 : Nat) ({ cls := "java/lang/Object", name := "<init>", desc := "()V" } : Jvm.MethodName)) ∈ wT := inT3 (i := 7) rfl rfl
theorem wi_488 : (Jvm.Cond.fieldLink "MailYardModel" (7 : Nat) "MailYardModel" "ops" "[I") ∈ wT := inT3 (i := 8) rfl rfl
theorem wi_489 : (Jvm.Cond.fieldLink "MailYardModel" (13 : Nat) "MailYardModel" "as" "[I") ∈ wT := inT3 (i := 9) rfl rfl
theorem wi_490 : (Jvm.Cond.fieldLink "MailYardModel" (16 : Nat) "MailYardModel" "bs" "[I") ∈ wT := inT3 (i := 10) rfl rfl
theorem wi_492 : (Jvm.Cond.fieldLink "MailYardModel" (19 : Nat) "MailYardModel" "who" "[I") ∈ wT := inT3 (i := 12) rfl rfl
theorem wi_493 : (Jvm.Cond.fieldLink "MailYardModel" (22 : Nat) "MailYardModel" "regs" "[I") ∈ wT := inT3 (i := 13) rfl rfl
theorem wi_494 : (Jvm.Cond.fieldLink "MailYardModel" (25 : Nat) "MailYardModel" "at" "[I") ∈ wT := inT3 (i := 14) rfl rfl
theorem wi_495 : (Jvm.Cond.fieldLink "MailYardModel" (28 : Nat) "MailYardModel" "entries" "[I") ∈ wT := inT3 (i := 15) rfl rfl
theorem wi_496 : (Jvm.Cond.fieldLink "MailYardModel" (31 : Nat) "MailYardModel" "arguments" "[I") ∈ wT := inT3 (i := 16) rfl rfl
theorem wi_497 : (Jvm.Cond.fieldLink "MailYardModel" (34 : Nat) "MailYardModel" "traps" "[Z") ∈ wT := inT3 (i := 17) rfl rfl
theorem wi_498 : (Jvm.Cond.fieldLink "MailYardModel" (38 : Nat) "MailYardModel" "above" "[I") ∈ wT := inT3 (i := 18) rfl rfl
theorem wi_499 : (Jvm.Cond.fieldLink "MailYardModel" (41 : Nat) "MailYardModel" "waits" "[Z") ∈ wT := inT3 (i := 19) rfl rfl
theorem wi_500 : (Jvm.Cond.fieldLink "MailYardModel" (44 : Nat) "MailYardModel" "turns" "[I") ∈ wT := inT3 (i := 20) rfl rfl
theorem wi_501 : (Jvm.Cond.fieldLink "MailYardModel" (47 : Nat) "MailYardModel" "begun" "[I") ∈ wT := inT3 (i := 21) rfl rfl
theorem wi_502 : (Jvm.Cond.fieldLink "MailYardModel" (50 : Nat) "MailYardModel" "times" "[I") ∈ wT := inT3 (i := 22) rfl rfl
theorem wi_504 : (Jvm.Cond.fieldLink "MailYardModel" (53 : Nat) "MailYardModel" "row" "[I") ∈ wT := inT3 (i := 24) rfl rfl
theorem wi_507 : (Jvm.Cond.fieldLink "MailYardModel" (56 : Nat) "MailYardModel" "mailTo" "[I") ∈ wT := inT3 (i := 27) rfl rfl
theorem wi_508 : (Jvm.Cond.fieldLink "MailYardModel" (59 : Nat) "MailYardModel" "mailFrom" "[I") ∈ wT := inT3 (i := 28) rfl rfl
theorem wi_509 : (Jvm.Cond.fieldLink "MailYardModel" (62 : Nat) "MailYardModel" "mailValue" "[I") ∈ wT := inT3 (i := 29) rfl rfl
theorem wi_511 : (Jvm.Cond.fieldLink "MailYardModel" (65 : Nat) "MailYardModel" "linkOne" "[I") ∈ wT := inT3 (i := 31) rfl rfl
theorem wi_512 : (Jvm.Cond.fieldLink "MailYardModel" (68 : Nat) "MailYardModel" "linkTwo" "[I") ∈ wT := inT3 (i := 32) rfl rfl
theorem wi_515 : (Jvm.Cond.fieldLink "MailYardModel" (71 : Nat) "MailYardModel" "clockWho" "[I") ∈ wT := inT3 (i := 35) rfl rfl
theorem wi_516 : (Jvm.Cond.fieldLink "MailYardModel" (74 : Nat) "MailYardModel" "clockEnd" "[I") ∈ wT := inT3 (i := 36) rfl rfl
theorem wi_517 : (Jvm.Cond.fieldLink "MailYardModel" (77 : Nat) "MailYardModel" "clockValue" "[I") ∈ wT := inT3 (i := 37) rfl rfl
theorem wi_518 : (Jvm.Cond.fieldLink "MailYardModel" (80 : Nat) "MailYardModel" "clockLimit" "[Z") ∈ wT := inT3 (i := 38) rfl rfl
theorem wi_520 : (Jvm.Cond.fieldLink "MailYardModel" (83 : Nat) "MailYardModel" "outValue" "[I") ∈ wT := inT3 (i := 40) rfl rfl
theorem wi_521 : (Jvm.Cond.fieldLink "MailYardModel" (86 : Nat) "MailYardModel" "outWho" "[I") ∈ wT := inT3 (i := 41) rfl rfl
theorem wi_523 : (Jvm.Cond.fieldLink "MailYardModel" (89 : Nat) "MailYardModel" "endWho" "[I") ∈ wT := inT3 (i := 43) rfl rfl
theorem wi_524 : (Jvm.Cond.fieldLink "MailYardModel" (92 : Nat) "MailYardModel" "endWhy" "[I") ∈ wT := inT3 (i := 44) rfl rfl
/-- what the tables say of nest mates and of the row of actors -/
def ZZ (U : State) : Prop := va_Nw (.methodLinkNest "MailYard" 18 ⟨"MailYard$Line", "<init>", "()V"⟩ "MailYard") U ∧ va_Nw (.methodLinkNest "MailYard" 34 ⟨"MailYard$Timers", "<init>", "()V"⟩ "MailYard") U ∧ va_Nw (.methodLinkNest "MailYard" 41 ⟨"MailYard$Outputs", "<init>", "()V"⟩ "MailYard") U ∧ va_Nw (.methodLinkNest "MailYard$Actor" 15 ⟨"MailYard$Mailbox", "<init>", "()V"⟩ "MailYard") U ∧ va_AO "MailYard$Actor" U
theorem ZZ.warm {s U : State} (h : ZZ s) (hW : s.WarmedH U.vm) : ZZ U := ⟨h.1.warmM hW, h.2.1.warmM hW, h.2.2.1.warmM hW, h.2.2.2.1.warmM hW, h.2.2.2.2.moved hW.alike⟩
theorem ZZ.blind : FrameBlind (fun _ U => ZZ U) := fun a U g mk h => ⟨va_Nw.same rfl rfl h.1, va_Nw.same rfl rfl h.2.1, va_Nw.same rfl rfl h.2.2.1, va_Nw.same rfl rfl h.2.2.2.1, va_AO.moved (Vm.Alike.refl U.vm) h.2.2.2.2⟩
theorem dfX0 : ∀ j, j < 15 → defaultValue (tyX0 j) = vp_V [.int 0, .null, .null, .null, .int 0, .int 0, .int 0, .int 0, .int 0, .int 0, .int 0, .int 0, .int 0, .int 0, .int 0] j := by
  intro j hj
  rcases (show j = 0 ∨ j = 1 ∨ j = 2 ∨ j = 3 ∨ j = 4 ∨ j = 5 ∨ j = 6 ∨ j = 7 ∨ j = 8 ∨ j = 9 ∨ j = 10 ∨ j = 11 ∨ j = 12 ∨ j = 13 ∨ j = 14 by omega) with rfl | rfl | rfl | rfl | rfl | rfl | rfl | rfl | rfl | rfl | rfl | rfl | rfl | rfl | rfl <;> rfl
theorem dfX1 : ∀ j, j < 3 → defaultValue (tyX1 j) = vp_V [.null, .null, .null] j := by
  intro j hj
  rcases (show j = 0 ∨ j = 1 ∨ j = 2 by omega) with rfl | rfl | rfl <;> rfl
theorem dfX2 : ∀ j, j < 2 → defaultValue (tyX2 j) = vp_V [.null, .int 0] j := by
  intro j hj
  rcases (show j = 0 ∨ j = 1 by omega) with rfl | rfl <;> rfl
theorem dfX3 : ∀ j, j < 4 → defaultValue (tyX3 j) = vp_V [.null, .null, .int 0, .int 0] j := by
  intro j hj
  rcases (show j = 0 ∨ j = 1 ∨ j = 2 ∨ j = 3 by omega) with rfl | rfl | rfl | rfl <;> rfl
theorem dfX4 : ∀ j, j < 3 → defaultValue (tyX4 j) = vp_V [.null, .null, .int 0] j := by
  intro j hj
  rcases (show j = 0 ∨ j = 1 ∨ j = 2 by omega) with rfl | rfl | rfl <;> rfl
theorem dfX5 : ∀ j, j < 5 → defaultValue (tyX5 j) = vp_V [.null, .null, .null, .null, .int 0] j := by
  intro j hj
  rcases (show j = 0 ∨ j = 1 ∨ j = 2 ∨ j = 3 ∨ j = 4 by omega) with rfl | rfl | rfl | rfl | rfl <;> rfl
theorem dfX6 : ∀ j, j < 11 → defaultValue (tyX6 j) = vp_V [.null, .null, .null, .null, .null, .null, .null, .long 0, .int 0, .int 0, .int 0] j := by
  intro j hj
  rcases (show j = 0 ∨ j = 1 ∨ j = 2 ∨ j = 3 ∨ j = 4 ∨ j = 5 ∨ j = 6 ∨ j = 7 ∨ j = 8 ∨ j = 9 ∨ j = 10 by omega) with rfl | rfl | rfl | rfl | rfl | rfl | rfl | rfl | rfl | rfl | rfl <;> rfl
theorem dfX7 : ∀ j, j < 37 → defaultValue (tyX7 j) = vp_V [.null, .null, .null, .int 0, .null, .null, .null, .null, .null, .null, .null, .null, .null, .null, .null, .int 0, .null, .int 0, .int 0, .null, .null, .null, .int 0, .null, .null, .int 0, .int 0, .null, .null, .null, .null, .int 0, .null, .null, .int 0, .null, .null] j := by
  intro j hj
  rcases (show j = 0 ∨ j = 1 ∨ j = 2 ∨ j = 3 ∨ j = 4 ∨ j = 5 ∨ j = 6 ∨ j = 7 ∨ j = 8 ∨ j = 9 ∨ j = 10 ∨ j = 11 ∨ j = 12 ∨ j = 13 ∨ j = 14 ∨ j = 15 ∨ j = 16 ∨ j = 17 ∨ j = 18 ∨ j = 19 ∨ j = 20 ∨ j = 21 ∨ j = 22 ∨ j = 23 ∨ j = 24 ∨ j = 25 ∨ j = 26 ∨ j = 27 ∨ j = 28 ∨ j = 29 ∨ j = 30 ∨ j = 31 ∨ j = 32 ∨ j = 33 ∨ j = 34 ∨ j = 35 ∨ j = 36 by omega) with rfl | rfl | rfl | rfl | rfl | rfl | rfl | rfl | rfl | rfl | rfl | rfl | rfl | rfl | rfl | rfl | rfl | rfl | rfl | rfl | rfl | rfl | rfl | rfl | rfl | rfl | rfl | rfl | rfl | rfl | rfl | rfl | rfl | rfl | rfl | rfl | rfl <;> rfl
theorem dX2_init_0 : decode cX2_init 0 = .ok (.aload_n 0, 1) := by decide +kernel
theorem dX2_init_1 : decode cX2_init 1 = .ok (.invokespecial 3, 3) := by decide +kernel
theorem dX2_init_4 : decode cX2_init 4 = .ok (.aload_n 0, 1) := by decide +kernel
theorem dX2_init_5 : decode cX2_init 5 = .ok (.bipush 8, 2) := by decide +kernel
theorem dX2_init_7 : decode cX2_init 7 = .ok (.anewarray 9, 3) := by decide +kernel
theorem dX2_init_10 : decode cX2_init 10 = .ok (.putfield 11, 3) := by decide +kernel
theorem dX2_init_13 : decode cX2_init 13 = .ok (.aload_n 0, 1) := by decide +kernel
theorem dX2_init_14 : decode cX2_init 14 = .ok (.iconst 0, 1) := by decide +kernel
theorem dX2_init_15 : decode cX2_init 15 = .ok (.putfield 17, 3) := by decide +kernel
theorem dX2_init_18 : decode cX2_init 18 = .ok (.return_, 1) := by decide +kernel
abbrev riX2_init : Room := { frames := 1, cells := 1, slots := 8, locals := 12 }
def ouX2_init : (Nat → ClassId) → Nat → va_W → Prop := fun cA a0 w => ∃ q1 : Nat, w = [(a0, .inr (2, [.ref q1, .int 0])), (q1, .inl (cA 2, 8, .inr (.inr (.inr (.inr (fun _ => none))))))]
theorem mkX2_init : Makes yX2_init (kX2_init :: wT) riX2_init 1 8 2 [.null, .int 0] [] ZZ (ouX2_init) := by
  refine Makes.of rfl (by decide) rfl rfl (fun _ => Nat.le_of_ble_eq_true rfl) ?_
  intro p l e s m args below meth c D cA A a0 Q x hini z fin
  refine jr_aload_n x dX2_init_0 rfl 0 rfl ?_
  refine jr_obj x dX2_init_1 (List.mem_cons_of_mem _ wi_47) (List.mem_cons_of_mem _ wi_17) (List.mem_cons_of_mem _ wi_18) (by decide) (by decide) ?_
  refine jr_aload_n x dX2_init_4 rfl 0 rfl ?_
  refine jr_bipush (v := 8) x dX2_init_5 (by decide) ?_
  refine jr_newq (N := 8) x dX2_init_7 (List.mem_cons_of_mem _ wi_48) z.2.2.2.2 (by decide) (by decide) (by decide) (by decide) (by decide) (fun q1 => ?_)
  refine jr_putF x hini tyX2 dX2_init_10 rfl (fun w h => List.mem_cons_of_mem _ (inX2 w h)) tyX2_ok nmX2 0 (by decide) (List.mem_cons_of_mem _ wi_50) rfl rfl rfl rfl 0 rfl (Nat.le_of_ble_eq_true rfl) (w' := [(a0, .inr (2, [.ref q1, .int 0])), (q1, .inl (cA 2, 8, .inr (.inr (.inr (.inr (fun _ => none))))))]) rfl ?_
  refine jr_aload_n x dX2_init_13 rfl 0 rfl ?_
  refine jr_iconst (v := 0) x dX2_init_14 (by decide) ?_
  refine jr_put x tyX2 dX2_init_15 rfl (fun w h => List.mem_cons_of_mem _ (inX2 w h)) tyX2_ok nmX2 1 (by decide) (List.mem_cons_of_mem _ wi_52) rfl rfl rfl 0 rfl (Nat.le_of_ble_eq_true rfl) (w' := [(a0, .inr (2, [.ref q1, .int 0])), (q1, .inl (cA 2, 8, .inr (.inr (.inr (.inr (fun _ => none))))))]) rfl ?_
  exact jr_widen (by decide) (by decide) (fin _ _ _ dX2_init_18 ⟨q1, rfl⟩)
theorem dX3_init_0 : decode cX3_init 0 = .ok (.aload_n 0, 1) := by decide +kernel
theorem dX3_init_1 : decode cX3_init 1 = .ok (.invokespecial 3, 3) := by decide +kernel
theorem dX3_init_4 : decode cX3_init 4 = .ok (.aload_n 0, 1) := by decide +kernel
theorem dX3_init_5 : decode cX3_init 5 = .ok (.bipush 24, 2) := by decide +kernel
theorem dX3_init_7 : decode cX3_init 7 = .ok (.newarray .int, 2) := by decide +kernel
theorem dX3_init_9 : decode cX3_init 9 = .ok (.putfield 9, 3) := by decide +kernel
theorem dX3_init_12 : decode cX3_init 12 = .ok (.aload_n 0, 1) := by decide +kernel
theorem dX3_init_13 : decode cX3_init 13 = .ok (.bipush 24, 2) := by decide +kernel
theorem dX3_init_15 : decode cX3_init 15 = .ok (.newarray .int, 2) := by decide +kernel
theorem dX3_init_17 : decode cX3_init 17 = .ok (.putfield 15, 3) := by decide +kernel
theorem dX3_init_20 : decode cX3_init 20 = .ok (.aload_n 0, 1) := by decide +kernel
theorem dX3_init_21 : decode cX3_init 21 = .ok (.iconst 0, 1) := by decide +kernel
theorem dX3_init_22 : decode cX3_init 22 = .ok (.putfield 18, 3) := by decide +kernel
theorem dX3_init_25 : decode cX3_init 25 = .ok (.aload_n 0, 1) := by decide +kernel
theorem dX3_init_26 : decode cX3_init 26 = .ok (.iconst 0, 1) := by decide +kernel
theorem dX3_init_27 : decode cX3_init 27 = .ok (.putfield 22, 3) := by decide +kernel
theorem dX3_init_30 : decode cX3_init 30 = .ok (.return_, 1) := by decide +kernel
abbrev riX3_init : Room := { frames := 1, cells := 2, slots := 48, locals := 12 }
def ouX3_init : (Nat → ClassId) → Nat → va_W → Prop := fun cA a0 w => ∃ q1 q2 : Nat, w = [(a0, .inr (3, [.ref q1, .ref q2, .int 0, .int 0])), (q1, .inl (cA 0, 24, .inl (fun _ => 0))), (q2, .inl (cA 0, 24, .inl (fun _ => 0)))]
theorem mkX3_init : Makes yX3_init (kX3_init :: wT) riX3_init 2 48 3 [.null, .null, .int 0, .int 0] [] ZZ (ouX3_init) := by
  refine Makes.of rfl (by decide) rfl rfl (fun _ => Nat.le_of_ble_eq_true rfl) ?_
  intro p l e s m args below meth c D cA A a0 Q x hini z fin
  refine jr_aload_n x dX3_init_0 rfl 0 rfl ?_
  refine jr_obj x dX3_init_1 (List.mem_cons_of_mem _ wi_117) (List.mem_cons_of_mem _ wi_17) (List.mem_cons_of_mem _ wi_18) (by decide) (by decide) ?_
  refine jr_aload_n x dX3_init_4 rfl 0 rfl ?_
  refine jr_bipush (v := 24) x dX3_init_5 (by decide) ?_
  refine jr_newa (t := 0) (ty := .int) (N := 24) (a0 := (24, .inl (fun _ => 0))) x dX3_init_7 rfl (List.mem_cons_of_mem _ wi_41) rfl (fun _ => rfl) (by decide) (by decide) (by decide) (by decide) (by decide) (fun q1 => ?_)
  refine jr_putF x hini tyX3 dX3_init_9 rfl (fun w h => List.mem_cons_of_mem _ (inX3 w h)) tyX3_ok nmX3 0 (by decide) (List.mem_cons_of_mem _ wi_118) rfl rfl rfl rfl 0 rfl (Nat.le_of_ble_eq_true rfl) (w' := [(a0, .inr (3, [.ref q1, .null, .int 0, .int 0])), (q1, .inl (cA 0, 24, .inl (fun _ => 0)))]) rfl ?_
  refine jr_aload_n x dX3_init_12 rfl 0 rfl ?_
  refine jr_bipush (v := 24) x dX3_init_13 (by decide) ?_
  refine jr_newa (t := 0) (ty := .int) (N := 24) (a0 := (24, .inl (fun _ => 0))) x dX3_init_15 rfl (List.mem_cons_of_mem _ wi_41) rfl (fun _ => rfl) (by decide) (by decide) (by decide) (by decide) (by decide) (fun q2 => ?_)
  refine jr_putF x hini tyX3 dX3_init_17 rfl (fun w h => List.mem_cons_of_mem _ (inX3 w h)) tyX3_ok nmX3 1 (by decide) (List.mem_cons_of_mem _ wi_119) rfl rfl rfl rfl 0 rfl (Nat.le_of_ble_eq_true rfl) (w' := [(a0, .inr (3, [.ref q1, .ref q2, .int 0, .int 0])), (q1, .inl (cA 0, 24, .inl (fun _ => 0))), (q2, .inl (cA 0, 24, .inl (fun _ => 0)))]) rfl ?_
  refine jr_aload_n x dX3_init_20 rfl 0 rfl ?_
  refine jr_iconst (v := 0) x dX3_init_21 (by decide) ?_
  refine jr_put x tyX3 dX3_init_22 rfl (fun w h => List.mem_cons_of_mem _ (inX3 w h)) tyX3_ok nmX3 2 (by decide) (List.mem_cons_of_mem _ wi_120) rfl rfl rfl 0 rfl (Nat.le_of_ble_eq_true rfl) (w' := [(a0, .inr (3, [.ref q1, .ref q2, .int 0, .int 0])), (q1, .inl (cA 0, 24, .inl (fun _ => 0))), (q2, .inl (cA 0, 24, .inl (fun _ => 0)))]) rfl ?_
  refine jr_aload_n x dX3_init_25 rfl 0 rfl ?_
  refine jr_iconst (v := 0) x dX3_init_26 (by decide) ?_
  refine jr_put x tyX3 dX3_init_27 rfl (fun w h => List.mem_cons_of_mem _ (inX3 w h)) tyX3_ok nmX3 3 (by decide) (List.mem_cons_of_mem _ wi_121) rfl rfl rfl 0 rfl (Nat.le_of_ble_eq_true rfl) (w' := [(a0, .inr (3, [.ref q1, .ref q2, .int 0, .int 0])), (q1, .inl (cA 0, 24, .inl (fun _ => 0))), (q2, .inl (cA 0, 24, .inl (fun _ => 0)))]) rfl ?_
  exact jr_widen (by decide) (by decide) (fin _ _ _ dX3_init_30 ⟨q1, q2, rfl⟩)
theorem dX4_init_0 : decode cX4_init 0 = .ok (.aload_n 0, 1) := by decide +kernel
theorem dX4_init_1 : decode cX4_init 1 = .ok (.invokespecial 1, 3) := by decide +kernel
theorem dX4_init_4 : decode cX4_init 4 = .ok (.aload_n 0, 1) := by decide +kernel
theorem dX4_init_5 : decode cX4_init 5 = .ok (.bipush 60, 2) := by decide +kernel
theorem dX4_init_7 : decode cX4_init 7 = .ok (.newarray .int, 2) := by decide +kernel
theorem dX4_init_9 : decode cX4_init 9 = .ok (.putfield 9, 3) := by decide +kernel
theorem dX4_init_12 : decode cX4_init 12 = .ok (.aload_n 0, 1) := by decide +kernel
theorem dX4_init_13 : decode cX4_init 13 = .ok (.bipush 60, 2) := by decide +kernel
theorem dX4_init_15 : decode cX4_init 15 = .ok (.newarray .int, 2) := by decide +kernel
theorem dX4_init_17 : decode cX4_init 17 = .ok (.putfield 13, 3) := by decide +kernel
theorem dX4_init_20 : decode cX4_init 20 = .ok (.aload_n 0, 1) := by decide +kernel
theorem dX4_init_21 : decode cX4_init 21 = .ok (.iconst 0, 1) := by decide +kernel
theorem dX4_init_22 : decode cX4_init 22 = .ok (.putfield 16, 3) := by decide +kernel
theorem dX4_init_25 : decode cX4_init 25 = .ok (.return_, 1) := by decide +kernel
abbrev riX4_init : Room := { frames := 1, cells := 2, slots := 120, locals := 12 }
def ouX4_init : (Nat → ClassId) → Nat → va_W → Prop := fun cA a0 w => ∃ q1 q2 : Nat, w = [(a0, .inr (4, [.ref q1, .ref q2, .int 0])), (q1, .inl (cA 0, 60, .inl (fun _ => 0))), (q2, .inl (cA 0, 60, .inl (fun _ => 0)))]
theorem mkX4_init : Makes yX4_init (kX4_init :: wT) riX4_init 2 120 4 [.null, .null, .int 0] [] ZZ (ouX4_init) := by
  refine Makes.of rfl (by decide) rfl rfl (fun _ => Nat.le_of_ble_eq_true rfl) ?_
  intro p l e s m args below meth c D cA A a0 Q x hini z fin
  refine jr_aload_n x dX4_init_0 rfl 0 rfl ?_
  refine jr_obj x dX4_init_1 (List.mem_cons_of_mem _ wi_92) (List.mem_cons_of_mem _ wi_17) (List.mem_cons_of_mem _ wi_18) (by decide) (by decide) ?_
  refine jr_aload_n x dX4_init_4 rfl 0 rfl ?_
  refine jr_bipush (v := 60) x dX4_init_5 (by decide) ?_
  refine jr_newa (t := 0) (ty := .int) (N := 60) (a0 := (60, .inl (fun _ => 0))) x dX4_init_7 rfl (List.mem_cons_of_mem _ wi_41) rfl (fun _ => rfl) (by decide) (by decide) (by decide) (by decide) (by decide) (fun q1 => ?_)
  refine jr_putF x hini tyX4 dX4_init_9 rfl (fun w h => List.mem_cons_of_mem _ (inX4 w h)) tyX4_ok nmX4 0 (by decide) (List.mem_cons_of_mem _ wi_93) rfl rfl rfl rfl 0 rfl (Nat.le_of_ble_eq_true rfl) (w' := [(a0, .inr (4, [.ref q1, .null, .int 0])), (q1, .inl (cA 0, 60, .inl (fun _ => 0)))]) rfl ?_
  refine jr_aload_n x dX4_init_12 rfl 0 rfl ?_
  refine jr_bipush (v := 60) x dX4_init_13 (by decide) ?_
  refine jr_newa (t := 0) (ty := .int) (N := 60) (a0 := (60, .inl (fun _ => 0))) x dX4_init_15 rfl (List.mem_cons_of_mem _ wi_41) rfl (fun _ => rfl) (by decide) (by decide) (by decide) (by decide) (by decide) (fun q2 => ?_)
  refine jr_putF x hini tyX4 dX4_init_17 rfl (fun w h => List.mem_cons_of_mem _ (inX4 w h)) tyX4_ok nmX4 1 (by decide) (List.mem_cons_of_mem _ wi_95) rfl rfl rfl rfl 0 rfl (Nat.le_of_ble_eq_true rfl) (w' := [(a0, .inr (4, [.ref q1, .ref q2, .int 0])), (q1, .inl (cA 0, 60, .inl (fun _ => 0))), (q2, .inl (cA 0, 60, .inl (fun _ => 0)))]) rfl ?_
  refine jr_aload_n x dX4_init_20 rfl 0 rfl ?_
  refine jr_iconst (v := 0) x dX4_init_21 (by decide) ?_
  refine jr_put x tyX4 dX4_init_22 rfl (fun w h => List.mem_cons_of_mem _ (inX4 w h)) tyX4_ok nmX4 2 (by decide) (List.mem_cons_of_mem _ wi_97) rfl rfl rfl 0 rfl (Nat.le_of_ble_eq_true rfl) (w' := [(a0, .inr (4, [.ref q1, .ref q2, .int 0])), (q1, .inl (cA 0, 60, .inl (fun _ => 0))), (q2, .inl (cA 0, 60, .inl (fun _ => 0)))]) rfl ?_
  exact jr_widen (by decide) (by decide) (fin _ _ _ dX4_init_25 ⟨q1, q2, rfl⟩)
theorem dX5_init_0 : decode cX5_init 0 = .ok (.aload_n 0, 1) := by decide +kernel
theorem dX5_init_1 : decode cX5_init 1 = .ok (.invokespecial 1, 3) := by decide +kernel
theorem dX5_init_4 : decode cX5_init 4 = .ok (.aload_n 0, 1) := by decide +kernel
theorem dX5_init_5 : decode cX5_init 5 = .ok (.bipush 10, 2) := by decide +kernel
theorem dX5_init_7 : decode cX5_init 7 = .ok (.newarray .int, 2) := by decide +kernel
theorem dX5_init_9 : decode cX5_init 9 = .ok (.putfield 9, 3) := by decide +kernel
theorem dX5_init_12 : decode cX5_init 12 = .ok (.aload_n 0, 1) := by decide +kernel
theorem dX5_init_13 : decode cX5_init 13 = .ok (.bipush 10, 2) := by decide +kernel
theorem dX5_init_15 : decode cX5_init 15 = .ok (.newarray .int, 2) := by decide +kernel
theorem dX5_init_17 : decode cX5_init 17 = .ok (.putfield 13, 3) := by decide +kernel
theorem dX5_init_20 : decode cX5_init 20 = .ok (.aload_n 0, 1) := by decide +kernel
theorem dX5_init_21 : decode cX5_init 21 = .ok (.bipush 10, 2) := by decide +kernel
theorem dX5_init_23 : decode cX5_init 23 = .ok (.newarray .boolean, 2) := by decide +kernel
theorem dX5_init_25 : decode cX5_init 25 = .ok (.putfield 16, 3) := by decide +kernel
theorem dX5_init_28 : decode cX5_init 28 = .ok (.aload_n 0, 1) := by decide +kernel
theorem dX5_init_29 : decode cX5_init 29 = .ok (.bipush 10, 2) := by decide +kernel
theorem dX5_init_31 : decode cX5_init 31 = .ok (.newarray .long, 2) := by decide +kernel
theorem dX5_init_33 : decode cX5_init 33 = .ok (.putfield 20, 3) := by decide +kernel
theorem dX5_init_36 : decode cX5_init 36 = .ok (.aload_n 0, 1) := by decide +kernel
theorem dX5_init_37 : decode cX5_init 37 = .ok (.iconst 0, 1) := by decide +kernel
theorem dX5_init_38 : decode cX5_init 38 = .ok (.putfield 24, 3) := by decide +kernel
theorem dX5_init_41 : decode cX5_init 41 = .ok (.return_, 1) := by decide +kernel
abbrev riX5_init : Room := { frames := 1, cells := 4, slots := 40, locals := 12 }
def ouX5_init : (Nat → ClassId) → Nat → va_W → Prop := fun cA a0 w => ∃ q1 q2 q3 q4 : Nat, w = [(a0, .inr (5, [.ref q1, .ref q2, .ref q3, .ref q4, .int 0])), (q1, .inl (cA 0, 10, .inl (fun _ => 0))), (q2, .inl (cA 0, 10, .inl (fun _ => 0))), (q3, .inl (cA 3, 10, .inl (fun _ => 0))), (q4, .inl (cA 1, 10, .inr (.inl (fun _ => 0))))]
theorem mkX5_init : Makes yX5_init (kX5_init :: wT) riX5_init 4 40 5 [.null, .null, .null, .null, .int 0] [] ZZ (ouX5_init) := by
  refine Makes.of rfl (by decide) rfl rfl (fun _ => Nat.le_of_ble_eq_true rfl) ?_
  intro p l e s m args below meth c D cA A a0 Q x hini z fin
  refine jr_aload_n x dX5_init_0 rfl 0 rfl ?_
  refine jr_obj x dX5_init_1 (List.mem_cons_of_mem _ wi_64) (List.mem_cons_of_mem _ wi_17) (List.mem_cons_of_mem _ wi_18) (by decide) (by decide) ?_
  refine jr_aload_n x dX5_init_4 rfl 0 rfl ?_
  refine jr_bipush (v := 10) x dX5_init_5 (by decide) ?_
  refine jr_newa (t := 0) (ty := .int) (N := 10) (a0 := (10, .inl (fun _ => 0))) x dX5_init_7 rfl (List.mem_cons_of_mem _ wi_41) rfl (fun _ => rfl) (by decide) (by decide) (by decide) (by decide) (by decide) (fun q1 => ?_)
  refine jr_putF x hini tyX5 dX5_init_9 rfl (fun w h => List.mem_cons_of_mem _ (inX5 w h)) tyX5_ok nmX5 0 (by decide) (List.mem_cons_of_mem _ wi_65) rfl rfl rfl rfl 0 rfl (Nat.le_of_ble_eq_true rfl) (w' := [(a0, .inr (5, [.ref q1, .null, .null, .null, .int 0])), (q1, .inl (cA 0, 10, .inl (fun _ => 0)))]) rfl ?_
  refine jr_aload_n x dX5_init_12 rfl 0 rfl ?_
  refine jr_bipush (v := 10) x dX5_init_13 (by decide) ?_
  refine jr_newa (t := 0) (ty := .int) (N := 10) (a0 := (10, .inl (fun _ => 0))) x dX5_init_15 rfl (List.mem_cons_of_mem _ wi_41) rfl (fun _ => rfl) (by decide) (by decide) (by decide) (by decide) (by decide) (fun q2 => ?_)
  refine jr_putF x hini tyX5 dX5_init_17 rfl (fun w h => List.mem_cons_of_mem _ (inX5 w h)) tyX5_ok nmX5 1 (by decide) (List.mem_cons_of_mem _ wi_67) rfl rfl rfl rfl 0 rfl (Nat.le_of_ble_eq_true rfl) (w' := [(a0, .inr (5, [.ref q1, .ref q2, .null, .null, .int 0])), (q1, .inl (cA 0, 10, .inl (fun _ => 0))), (q2, .inl (cA 0, 10, .inl (fun _ => 0)))]) rfl ?_
  refine jr_aload_n x dX5_init_20 rfl 0 rfl ?_
  refine jr_bipush (v := 10) x dX5_init_21 (by decide) ?_
  refine jr_newa (t := 3) (ty := .boolean) (N := 10) (a0 := (10, .inl (fun _ => 0))) x dX5_init_23 rfl (List.mem_cons_of_mem _ wi_85) rfl (fun _ => rfl) (by decide) (by decide) (by decide) (by decide) (by decide) (fun q3 => ?_)
  refine jr_putF x hini tyX5 dX5_init_25 rfl (fun w h => List.mem_cons_of_mem _ (inX5 w h)) tyX5_ok nmX5 2 (by decide) (List.mem_cons_of_mem _ wi_69) rfl rfl rfl rfl 0 rfl (Nat.le_of_ble_eq_true rfl) (w' := [(a0, .inr (5, [.ref q1, .ref q2, .ref q3, .null, .int 0])), (q1, .inl (cA 0, 10, .inl (fun _ => 0))), (q2, .inl (cA 0, 10, .inl (fun _ => 0))), (q3, .inl (cA 3, 10, .inl (fun _ => 0)))]) rfl ?_
  refine jr_aload_n x dX5_init_28 rfl 0 rfl ?_
  refine jr_bipush (v := 10) x dX5_init_29 (by decide) ?_
  refine jr_newa (t := 1) (ty := .long) (N := 10) (a0 := (10, .inr (.inl (fun _ => 0)))) x dX5_init_31 rfl (List.mem_cons_of_mem _ wi_86) rfl (fun _ => rfl) (by decide) (by decide) (by decide) (by decide) (by decide) (fun q4 => ?_)
  refine jr_putF x hini tyX5 dX5_init_33 rfl (fun w h => List.mem_cons_of_mem _ (inX5 w h)) tyX5_ok nmX5 3 (by decide) (List.mem_cons_of_mem _ wi_71) rfl rfl rfl rfl 0 rfl (Nat.le_of_ble_eq_true rfl) (w' := [(a0, .inr (5, [.ref q1, .ref q2, .ref q3, .ref q4, .int 0])), (q1, .inl (cA 0, 10, .inl (fun _ => 0))), (q2, .inl (cA 0, 10, .inl (fun _ => 0))), (q3, .inl (cA 3, 10, .inl (fun _ => 0))), (q4, .inl (cA 1, 10, .inr (.inl (fun _ => 0))))]) rfl ?_
  refine jr_aload_n x dX5_init_36 rfl 0 rfl ?_
  refine jr_iconst (v := 0) x dX5_init_37 (by decide) ?_
  refine jr_put x tyX5 dX5_init_38 rfl (fun w h => List.mem_cons_of_mem _ (inX5 w h)) tyX5_ok nmX5 4 (by decide) (List.mem_cons_of_mem _ wi_72) rfl rfl rfl 0 rfl (Nat.le_of_ble_eq_true rfl) (w' := [(a0, .inr (5, [.ref q1, .ref q2, .ref q3, .ref q4, .int 0])), (q1, .inl (cA 0, 10, .inl (fun _ => 0))), (q2, .inl (cA 0, 10, .inl (fun _ => 0))), (q3, .inl (cA 3, 10, .inl (fun _ => 0))), (q4, .inl (cA 1, 10, .inr (.inl (fun _ => 0))))]) rfl ?_
  exact jr_widen (by decide) (by decide) (fin _ _ _ dX5_init_41 ⟨q1, q2, q3, q4, rfl⟩)
theorem dX0_init_0 : decode cX0_init 0 = .ok (.aload_n 0, 1) := by decide +kernel
theorem dX0_init_1 : decode cX0_init 1 = .ok (.invokespecial 1, 3) := by decide +kernel
theorem dX0_init_4 : decode cX0_init 4 = .ok (.aload_n 0, 1) := by decide +kernel
theorem dX0_init_5 : decode cX0_init 5 = .ok (.iconst 4, 1) := by decide +kernel
theorem dX0_init_6 : decode cX0_init 6 = .ok (.newarray .int, 2) := by decide +kernel
theorem dX0_init_8 : decode cX0_init 8 = .ok (.putfield 9, 3) := by decide +kernel
theorem dX0_init_11 : decode cX0_init 11 = .ok (.aload_n 0, 1) := by decide +kernel
theorem dX0_init_12 : decode cX0_init 12 = .ok (.new 13, 3) := by decide +kernel
theorem dX0_init_15 : decode cX0_init 15 = .ok (.dup, 1) := by decide +kernel
theorem dX0_init_16 : decode cX0_init 16 = .ok (.invokespecial 15, 3) := by decide +kernel
theorem dX0_init_19 : decode cX0_init 19 = .ok (.putfield 16, 3) := by decide +kernel
theorem dX0_init_22 : decode cX0_init 22 = .ok (.aload_n 0, 1) := by decide +kernel
theorem dX0_init_23 : decode cX0_init 23 = .ok (.iconst 3, 1) := by decide +kernel
theorem dX0_init_24 : decode cX0_init 24 = .ok (.newarray .long, 2) := by decide +kernel
theorem dX0_init_26 : decode cX0_init 26 = .ok (.putfield 20, 3) := by decide +kernel
theorem dX0_init_29 : decode cX0_init 29 = .ok (.aload_n 0, 1) := by decide +kernel
theorem dX0_init_30 : decode cX0_init 30 = .ok (.iload_n 1, 1) := by decide +kernel
theorem dX0_init_31 : decode cX0_init 31 = .ok (.putfield 24, 3) := by decide +kernel
theorem dX0_init_34 : decode cX0_init 34 = .ok (.return_, 1) := by decide +kernel
abbrev riX0_init : Room := { frames := 2, cells := 5, slots := 59, locals := 32 }
def ouX0_init (slot : Int32) : (Nat → ClassId) → Nat → va_W → Prop := fun cA a0 w => ∃ q1 q2 q3 q4 q5 : Nat, w = [(a0, .inr (0, [.int slot, .ref q1, .ref q2, .ref q5, .int 0, .int 0, .int 0, .int 0, .int 0, .int 0, .int 0, .int 0, .int 0, .int 0, .int 0])), (q1, .inl (cA 0, 4, .inl (fun _ => 0))), (q2, .inr (3, [.ref q3, .ref q4, .int 0, .int 0])), (q3, .inl (cA 0, 24, .inl (fun _ => 0))), (q4, .inl (cA 0, 24, .inl (fun _ => 0))), (q5, .inl (cA 1, 3, .inr (.inl (fun _ => 0))))]
theorem mkX0_init (slot : Int32) : Makes yX0_init (kX0_init :: wT) riX0_init 5 59 0 [.int 0, .null, .null, .null, .int 0, .int 0, .int 0, .int 0, .int 0, .int 0, .int 0, .int 0, .int 0, .int 0, .int 0] [.int slot] ZZ (ouX0_init slot) := by
  refine Makes.of rfl (by decide) rfl rfl (fun _ => Nat.le_of_ble_eq_true rfl) ?_
  intro p l e s m args below meth c D cA A a0 Q x hini z fin
  refine jr_aload_n x dX0_init_0 rfl 0 rfl ?_
  refine jr_obj x dX0_init_1 (List.mem_cons_of_mem _ wi_111) (List.mem_cons_of_mem _ wi_17) (List.mem_cons_of_mem _ wi_18) (by decide) (by decide) ?_
  refine jr_aload_n x dX0_init_4 rfl 0 rfl ?_
  refine jr_iconst (v := 4) x dX0_init_5 (by decide) ?_
  refine jr_newa (t := 0) (ty := .int) (N := 4) (a0 := (4, .inl (fun _ => 0))) x dX0_init_6 rfl (List.mem_cons_of_mem _ wi_41) rfl (fun _ => rfl) (by decide) (by decide) (by decide) (by decide) (by decide) (fun q1 => ?_)
  refine jr_putF x hini tyX0 dX0_init_8 rfl (fun w h => List.mem_cons_of_mem _ (inX0 w h)) tyX0_ok nmX0 1 (by decide) (List.mem_cons_of_mem _ wi_133) rfl rfl rfl rfl 0 rfl (Nat.le_of_ble_eq_true rfl) (w' := [(a0, .inr (0, [.int 0, .ref q1, .null, .null, .int 0, .int 0, .int 0, .int 0, .int 0, .int 0, .int 0, .int 0, .int 0, .int 0, .int 0])), (q1, .inl (cA 0, 4, .inl (fun _ => 0)))]) rfl ?_
  refine jr_aload_n x dX0_init_11 rfl 0 rfl ?_
  refine jr_new (ci := 3) (C := RX3) (T := TX3) (N := 4) (fs := [.null, .null, .int 0, .int 0]) x tyX3 dX0_init_12 rfl (fun w h => List.mem_cons_of_mem _ (inX3 w h)) tyX3_ok (List.mem_cons_of_mem _ wi_112) (List.mem_cons_of_mem _ wi_113) (List.mem_cons_of_mem _ wi_8) dfX3 (by decide) (by decide) (fun q2 => ?_)
  refine jr_dup x dX0_init_15 ?_
  refine jr_makeN (as := []) x mkX3_init dX0_init_16 (⟨va_cnB 0 x.2.2.2.2.1 (gT (fun w h => (List.mem_cons.mp h).elim (fun e => by rw [e]; exact kX3_init_in) id)) rfl rfl rfl z.2.2.2.1 (x.2.2.2.2.1 _ (List.mem_cons_of_mem _ wi_8)) hX3_init ⟨by decide, by decide⟩, rfl, x.2.2.2.2.1 _ (List.mem_cons_of_mem _ wi_115)⟩) (Nat.le_of_ble_eq_true rfl) (by decide) (fun U hW => z.warm hW) ZZ.blind (fun w1 ho => ?_)
  obtain ⟨q3, q4, rfl⟩ := ho
  refine jr_putF x hini tyX0 dX0_init_19 rfl (fun w h => List.mem_cons_of_mem _ (inX0 w h)) tyX0_ok nmX0 2 (by decide) (List.mem_cons_of_mem _ wi_135) rfl rfl rfl rfl 0 rfl (Nat.le_of_ble_eq_true rfl) (w' := [(a0, .inr (0, [.int 0, .ref q1, .ref q2, .null, .int 0, .int 0, .int 0, .int 0, .int 0, .int 0, .int 0, .int 0, .int 0, .int 0, .int 0])), (q1, .inl (cA 0, 4, .inl (fun _ => 0))), (q2, .inr (3, [.ref q3, .ref q4, .int 0, .int 0])), (q3, .inl (cA 0, 24, .inl (fun _ => 0))), (q4, .inl (cA 0, 24, .inl (fun _ => 0)))]) rfl ?_
  refine jr_aload_n x dX0_init_22 rfl 0 rfl ?_
  refine jr_iconst (v := 3) x dX0_init_23 (by decide) ?_
  refine jr_newa (t := 1) (ty := .long) (N := 3) (a0 := (3, .inr (.inl (fun _ => 0)))) x dX0_init_24 rfl (List.mem_cons_of_mem _ wi_86) rfl (fun _ => rfl) (by decide) (by decide) (by decide) (by decide) (by decide) (fun q5 => ?_)
  refine jr_putF x hini tyX0 dX0_init_26 rfl (fun w h => List.mem_cons_of_mem _ (inX0 w h)) tyX0_ok nmX0 3 (by decide) (List.mem_cons_of_mem _ wi_137) rfl rfl rfl rfl 0 rfl (Nat.le_of_ble_eq_true rfl) (w' := [(a0, .inr (0, [.int 0, .ref q1, .ref q2, .ref q5, .int 0, .int 0, .int 0, .int 0, .int 0, .int 0, .int 0, .int 0, .int 0, .int 0, .int 0])), (q1, .inl (cA 0, 4, .inl (fun _ => 0))), (q2, .inr (3, [.ref q3, .ref q4, .int 0, .int 0])), (q3, .inl (cA 0, 24, .inl (fun _ => 0))), (q4, .inl (cA 0, 24, .inl (fun _ => 0))), (q5, .inl (cA 1, 3, .inr (.inl (fun _ => 0))))]) rfl ?_
  refine jr_aload_n x dX0_init_29 rfl 0 rfl ?_
  refine jr_iload_n x dX0_init_30 rfl 1 rfl ?_
  refine jr_putF x hini tyX0 dX0_init_31 rfl (fun w h => List.mem_cons_of_mem _ (inX0 w h)) tyX0_ok nmX0 0 (by decide) (List.mem_cons_of_mem _ wi_132) rfl rfl rfl rfl 0 rfl (Nat.le_of_ble_eq_true rfl) (w' := [(a0, .inr (0, [.int slot, .ref q1, .ref q2, .ref q5, .int 0, .int 0, .int 0, .int 0, .int 0, .int 0, .int 0, .int 0, .int 0, .int 0, .int 0])), (q1, .inl (cA 0, 4, .inl (fun _ => 0))), (q2, .inr (3, [.ref q3, .ref q4, .int 0, .int 0])), (q3, .inl (cA 0, 24, .inl (fun _ => 0))), (q4, .inl (cA 0, 24, .inl (fun _ => 0))), (q5, .inl (cA 1, 3, .inr (.inl (fun _ => 0))))]) rfl ?_
  exact jr_widen (by decide) (by decide) (fin _ _ _ dX0_init_34 ⟨q1, q2, q3, q4, q5, rfl⟩)
theorem dX7_init_0 : decode cX7_init 0 = .ok (.aload_n 0, 1) := by decide +kernel
theorem dX7_init_1 : decode cX7_init 1 = .ok (.invokespecial 1, 3) := by decide +kernel
theorem dX7_init_4 : decode cX7_init 4 = .ok (.aload_n 0, 1) := by decide +kernel
theorem dX7_init_5 : decode cX7_init 5 = .ok (.bipush 48, 2) := by decide +kernel
theorem dX7_init_7 : decode cX7_init 7 = .ok (.newarray .int, 2) := by decide +kernel
theorem dX7_init_9 : decode cX7_init 9 = .ok (.putfield 7, 3) := by decide +kernel
theorem dX7_init_12 : decode cX7_init 12 = .ok (.aload_n 0, 1) := by decide +kernel
theorem dX7_init_13 : decode cX7_init 13 = .ok (.bipush 48, 2) := by decide +kernel
theorem dX7_init_15 : decode cX7_init 15 = .ok (.newarray .int, 2) := by decide +kernel
theorem dX7_init_17 : decode cX7_init 17 = .ok (.putfield 13, 3) := by decide +kernel
theorem dX7_init_20 : decode cX7_init 20 = .ok (.aload_n 0, 1) := by decide +kernel
theorem dX7_init_21 : decode cX7_init 21 = .ok (.bipush 48, 2) := by decide +kernel
theorem dX7_init_23 : decode cX7_init 23 = .ok (.newarray .int, 2) := by decide +kernel
theorem dX7_init_25 : decode cX7_init 25 = .ok (.putfield 16, 3) := by decide +kernel
theorem dX7_init_28 : decode cX7_init 28 = .ok (.aload_n 0, 1) := by decide +kernel
theorem dX7_init_29 : decode cX7_init 29 = .ok (.bipush 8, 2) := by decide +kernel
theorem dX7_init_31 : decode cX7_init 31 = .ok (.newarray .int, 2) := by decide +kernel
theorem dX7_init_33 : decode cX7_init 33 = .ok (.putfield 19, 3) := by decide +kernel
theorem dX7_init_36 : decode cX7_init 36 = .ok (.aload_n 0, 1) := by decide +kernel
theorem dX7_init_37 : decode cX7_init 37 = .ok (.bipush 32, 2) := by decide +kernel
theorem dX7_init_39 : decode cX7_init 39 = .ok (.newarray .int, 2) := by decide +kernel
theorem dX7_init_41 : decode cX7_init 41 = .ok (.putfield 22, 3) := by decide +kernel
theorem dX7_init_44 : decode cX7_init 44 = .ok (.aload_n 0, 1) := by decide +kernel
theorem dX7_init_45 : decode cX7_init 45 = .ok (.bipush 8, 2) := by decide +kernel
theorem dX7_init_47 : decode cX7_init 47 = .ok (.newarray .int, 2) := by decide +kernel
theorem dX7_init_49 : decode cX7_init 49 = .ok (.putfield 25, 3) := by decide +kernel
theorem dX7_init_52 : decode cX7_init 52 = .ok (.aload_n 0, 1) := by decide +kernel
theorem dX7_init_53 : decode cX7_init 53 = .ok (.bipush 8, 2) := by decide +kernel
theorem dX7_init_55 : decode cX7_init 55 = .ok (.newarray .int, 2) := by decide +kernel
theorem dX7_init_57 : decode cX7_init 57 = .ok (.putfield 28, 3) := by decide +kernel
theorem dX7_init_60 : decode cX7_init 60 = .ok (.aload_n 0, 1) := by decide +kernel
theorem dX7_init_61 : decode cX7_init 61 = .ok (.bipush 8, 2) := by decide +kernel
theorem dX7_init_63 : decode cX7_init 63 = .ok (.newarray .int, 2) := by decide +kernel
theorem dX7_init_65 : decode cX7_init 65 = .ok (.putfield 31, 3) := by decide +kernel
theorem dX7_init_68 : decode cX7_init 68 = .ok (.aload_n 0, 1) := by decide +kernel
theorem dX7_init_69 : decode cX7_init 69 = .ok (.bipush 8, 2) := by decide +kernel
theorem dX7_init_71 : decode cX7_init 71 = .ok (.newarray .boolean, 2) := by decide +kernel
theorem dX7_init_73 : decode cX7_init 73 = .ok (.putfield 34, 3) := by decide +kernel
theorem dX7_init_76 : decode cX7_init 76 = .ok (.aload_n 0, 1) := by decide +kernel
theorem dX7_init_77 : decode cX7_init 77 = .ok (.bipush 8, 2) := by decide +kernel
theorem dX7_init_79 : decode cX7_init 79 = .ok (.newarray .int, 2) := by decide +kernel
theorem dX7_init_81 : decode cX7_init 81 = .ok (.putfield 38, 3) := by decide +kernel
theorem dX7_init_84 : decode cX7_init 84 = .ok (.aload_n 0, 1) := by decide +kernel
theorem dX7_init_85 : decode cX7_init 85 = .ok (.bipush 8, 2) := by decide +kernel
theorem dX7_init_87 : decode cX7_init 87 = .ok (.newarray .boolean, 2) := by decide +kernel
theorem dX7_init_89 : decode cX7_init 89 = .ok (.putfield 41, 3) := by decide +kernel
theorem dX7_init_92 : decode cX7_init 92 = .ok (.aload_n 0, 1) := by decide +kernel
theorem dX7_init_93 : decode cX7_init 93 = .ok (.bipush 8, 2) := by decide +kernel
theorem dX7_init_95 : decode cX7_init 95 = .ok (.newarray .int, 2) := by decide +kernel
theorem dX7_init_97 : decode cX7_init 97 = .ok (.putfield 44, 3) := by decide +kernel
theorem dX7_init_100 : decode cX7_init 100 = .ok (.aload_n 0, 1) := by decide +kernel
theorem dX7_init_101 : decode cX7_init 101 = .ok (.bipush 8, 2) := by decide +kernel
theorem dX7_init_103 : decode cX7_init 103 = .ok (.newarray .int, 2) := by decide +kernel
theorem dX7_init_105 : decode cX7_init 105 = .ok (.putfield 47, 3) := by decide +kernel
theorem dX7_init_108 : decode cX7_init 108 = .ok (.aload_n 0, 1) := by decide +kernel
theorem dX7_init_109 : decode cX7_init 109 = .ok (.bipush 24, 2) := by decide +kernel
theorem dX7_init_111 : decode cX7_init 111 = .ok (.newarray .int, 2) := by decide +kernel
theorem dX7_init_113 : decode cX7_init 113 = .ok (.putfield 50, 3) := by decide +kernel
theorem dX7_init_116 : decode cX7_init 116 = .ok (.aload_n 0, 1) := by decide +kernel
theorem dX7_init_117 : decode cX7_init 117 = .ok (.bipush 8, 2) := by decide +kernel
theorem dX7_init_119 : decode cX7_init 119 = .ok (.newarray .int, 2) := by decide +kernel
theorem dX7_init_121 : decode cX7_init 121 = .ok (.putfield 53, 3) := by decide +kernel
theorem dX7_init_124 : decode cX7_init 124 = .ok (.aload_n 0, 1) := by decide +kernel
theorem dX7_init_125 : decode cX7_init 125 = .ok (.bipush 24, 2) := by decide +kernel
theorem dX7_init_127 : decode cX7_init 127 = .ok (.newarray .int, 2) := by decide +kernel
theorem dX7_init_129 : decode cX7_init 129 = .ok (.putfield 56, 3) := by decide +kernel
theorem dX7_init_132 : decode cX7_init 132 = .ok (.aload_n 0, 1) := by decide +kernel
theorem dX7_init_133 : decode cX7_init 133 = .ok (.bipush 24, 2) := by decide +kernel
theorem dX7_init_135 : decode cX7_init 135 = .ok (.newarray .int, 2) := by decide +kernel
theorem dX7_init_137 : decode cX7_init 137 = .ok (.putfield 59, 3) := by decide +kernel
theorem dX7_init_140 : decode cX7_init 140 = .ok (.aload_n 0, 1) := by decide +kernel
theorem dX7_init_141 : decode cX7_init 141 = .ok (.bipush 24, 2) := by decide +kernel
theorem dX7_init_143 : decode cX7_init 143 = .ok (.newarray .int, 2) := by decide +kernel
theorem dX7_init_145 : decode cX7_init 145 = .ok (.putfield 62, 3) := by decide +kernel
theorem dX7_init_148 : decode cX7_init 148 = .ok (.aload_n 0, 1) := by decide +kernel
theorem dX7_init_149 : decode cX7_init 149 = .ok (.bipush 24, 2) := by decide +kernel
theorem dX7_init_151 : decode cX7_init 151 = .ok (.newarray .int, 2) := by decide +kernel
theorem dX7_init_153 : decode cX7_init 153 = .ok (.putfield 65, 3) := by decide +kernel
theorem dX7_init_156 : decode cX7_init 156 = .ok (.aload_n 0, 1) := by decide +kernel
theorem dX7_init_157 : decode cX7_init 157 = .ok (.bipush 24, 2) := by decide +kernel
theorem dX7_init_159 : decode cX7_init 159 = .ok (.newarray .int, 2) := by decide +kernel
theorem dX7_init_161 : decode cX7_init 161 = .ok (.putfield 68, 3) := by decide +kernel
theorem dX7_init_164 : decode cX7_init 164 = .ok (.aload_n 0, 1) := by decide +kernel
theorem dX7_init_165 : decode cX7_init 165 = .ok (.bipush 10, 2) := by decide +kernel
theorem dX7_init_167 : decode cX7_init 167 = .ok (.newarray .int, 2) := by decide +kernel
theorem dX7_init_169 : decode cX7_init 169 = .ok (.putfield 71, 3) := by decide +kernel
theorem dX7_init_172 : decode cX7_init 172 = .ok (.aload_n 0, 1) := by decide +kernel
theorem dX7_init_173 : decode cX7_init 173 = .ok (.bipush 10, 2) := by decide +kernel
theorem dX7_init_175 : decode cX7_init 175 = .ok (.newarray .int, 2) := by decide +kernel
theorem dX7_init_177 : decode cX7_init 177 = .ok (.putfield 74, 3) := by decide +kernel
theorem dX7_init_180 : decode cX7_init 180 = .ok (.aload_n 0, 1) := by decide +kernel
theorem dX7_init_181 : decode cX7_init 181 = .ok (.bipush 10, 2) := by decide +kernel
theorem dX7_init_183 : decode cX7_init 183 = .ok (.newarray .int, 2) := by decide +kernel
theorem dX7_init_185 : decode cX7_init 185 = .ok (.putfield 77, 3) := by decide +kernel
theorem dX7_init_188 : decode cX7_init 188 = .ok (.aload_n 0, 1) := by decide +kernel
theorem dX7_init_189 : decode cX7_init 189 = .ok (.bipush 10, 2) := by decide +kernel
theorem dX7_init_191 : decode cX7_init 191 = .ok (.newarray .boolean, 2) := by decide +kernel
theorem dX7_init_193 : decode cX7_init 193 = .ok (.putfield 80, 3) := by decide +kernel
theorem dX7_init_196 : decode cX7_init 196 = .ok (.aload_n 0, 1) := by decide +kernel
theorem dX7_init_197 : decode cX7_init 197 = .ok (.bipush 60, 2) := by decide +kernel
theorem dX7_init_199 : decode cX7_init 199 = .ok (.newarray .int, 2) := by decide +kernel
theorem dX7_init_201 : decode cX7_init 201 = .ok (.putfield 83, 3) := by decide +kernel
theorem dX7_init_204 : decode cX7_init 204 = .ok (.aload_n 0, 1) := by decide +kernel
theorem dX7_init_205 : decode cX7_init 205 = .ok (.bipush 60, 2) := by decide +kernel
theorem dX7_init_207 : decode cX7_init 207 = .ok (.newarray .int, 2) := by decide +kernel
theorem dX7_init_209 : decode cX7_init 209 = .ok (.putfield 86, 3) := by decide +kernel
theorem dX7_init_212 : decode cX7_init 212 = .ok (.aload_n 0, 1) := by decide +kernel
theorem dX7_init_213 : decode cX7_init 213 = .ok (.sipush 200, 3) := by decide +kernel
theorem dX7_init_216 : decode cX7_init 216 = .ok (.newarray .int, 2) := by decide +kernel
theorem dX7_init_218 : decode cX7_init 218 = .ok (.putfield 89, 3) := by decide +kernel
theorem dX7_init_221 : decode cX7_init 221 = .ok (.aload_n 0, 1) := by decide +kernel
theorem dX7_init_222 : decode cX7_init 222 = .ok (.sipush 200, 3) := by decide +kernel
theorem dX7_init_225 : decode cX7_init 225 = .ok (.newarray .int, 2) := by decide +kernel
theorem dX7_init_227 : decode cX7_init 227 = .ok (.putfield 92, 3) := by decide +kernel
theorem dX7_init_230 : decode cX7_init 230 = .ok (.return_, 1) := by decide +kernel
abbrev riX7_init : Room := { frames := 1, cells := 28, slots := 960, locals := 12 }
def ouX7_init : (Nat → ClassId) → Nat → va_W → Prop := fun cA a0 w => ∃ q1 q2 q3 q4 q5 q6 q7 q8 q9 q10 q11 q12 q13 q14 q15 q16 q17 q18 q19 q20 q21 q22 q23 q24 q25 q26 q27 q28 : Nat, w = [(a0, .inr (7, [.ref q1, .ref q2, .ref q3, .int 0, .ref q4, .ref q5, .ref q6, .ref q7, .ref q8, .ref q9, .ref q10, .ref q11, .ref q12, .ref q13, .ref q14, .int 0, .ref q15, .int 0, .int 0, .ref q16, .ref q17, .ref q18, .int 0, .ref q19, .ref q20, .int 0, .int 0, .ref q21, .ref q22, .ref q23, .ref q24, .int 0, .ref q25, .ref q26, .int 0, .ref q27, .ref q28])), (q1, .inl (cA 0, 48, .inl (fun _ => 0))), (q2, .inl (cA 0, 48, .inl (fun _ => 0))), (q3, .inl (cA 0, 48, .inl (fun _ => 0))), (q4, .inl (cA 0, 8, .inl (fun _ => 0))), (q5, .inl (cA 0, 32, .inl (fun _ => 0))), (q6, .inl (cA 0, 8, .inl (fun _ => 0))), (q7, .inl (cA 0, 8, .inl (fun _ => 0))), (q8, .inl (cA 0, 8, .inl (fun _ => 0))), (q9, .inl (cA 3, 8, .inl (fun _ => 0))), (q10, .inl (cA 0, 8, .inl (fun _ => 0))), (q11, .inl (cA 3, 8, .inl (fun _ => 0))), (q12, .inl (cA 0, 8, .inl (fun _ => 0))), (q13, .inl (cA 0, 8, .inl (fun _ => 0))), (q14, .inl (cA 0, 24, .inl (fun _ => 0))), (q15, .inl (cA 0, 8, .inl (fun _ => 0))), (q16, .inl (cA 0, 24, .inl (fun _ => 0))), (q17, .inl (cA 0, 24, .inl (fun _ => 0))), (q18, .inl (cA 0, 24, .inl (fun _ => 0))), (q19, .inl (cA 0, 24, .inl (fun _ => 0))), (q20, .inl (cA 0, 24, .inl (fun _ => 0))), (q21, .inl (cA 0, 10, .inl (fun _ => 0))), (q22, .inl (cA 0, 10, .inl (fun _ => 0))), (q23, .inl (cA 0, 10, .inl (fun _ => 0))), (q24, .inl (cA 3, 10, .inl (fun _ => 0))), (q25, .inl (cA 0, 60, .inl (fun _ => 0))), (q26, .inl (cA 0, 60, .inl (fun _ => 0))), (q27, .inl (cA 0, 200, .inl (fun _ => 0))), (q28, .inl (cA 0, 200, .inl (fun _ => 0)))]
theorem mkX7_init : Makes yX7_init (kX7_init :: wT) riX7_init 28 960 7 [.null, .null, .null, .int 0, .null, .null, .null, .null, .null, .null, .null, .null, .null, .null, .null, .int 0, .null, .int 0, .int 0, .null, .null, .null, .int 0, .null, .null, .int 0, .int 0, .null, .null, .null, .null, .int 0, .null, .null, .int 0, .null, .null] [] ZZ (ouX7_init) := by
  refine Makes.of rfl (by decide) rfl rfl (fun _ => Nat.le_of_ble_eq_true rfl) ?_
  intro p l e s m args below meth c D cA A a0 Q x hini z fin
  refine jr_aload_n x dX7_init_0 rfl 0 rfl ?_
  refine jr_obj x dX7_init_1 (List.mem_cons_of_mem _ wi_487) (List.mem_cons_of_mem _ wi_17) (List.mem_cons_of_mem _ wi_18) (by decide) (by decide) ?_
  refine jr_aload_n x dX7_init_4 rfl 0 rfl ?_
  refine jr_bipush (v := 48) x dX7_init_5 (by decide) ?_
  refine jr_newa (t := 0) (ty := .int) (N := 48) (a0 := (48, .inl (fun _ => 0))) x dX7_init_7 rfl (List.mem_cons_of_mem _ wi_41) rfl (fun _ => rfl) (by decide) (by decide) (by decide) (by decide) (by decide) (fun q1 => ?_)
  refine jr_put x tyX7 dX7_init_9 rfl (fun w h => List.mem_cons_of_mem _ (inX7 w h)) tyX7_ok nmX7 0 (by decide) (List.mem_cons_of_mem _ wi_488) rfl rfl rfl 0 rfl (Nat.le_of_ble_eq_true rfl) (w' := [(a0, .inr (7, [.ref q1, .null, .null, .int 0, .null, .null, .null, .null, .null, .null, .null, .null, .null, .null, .null, .int 0, .null, .int 0, .int 0, .null, .null, .null, .int 0, .null, .null, .int 0, .int 0, .null, .null, .null, .null, .int 0, .null, .null, .int 0, .null, .null])), (q1, .inl (cA 0, 48, .inl (fun _ => 0)))]) rfl ?_
  refine jr_aload_n x dX7_init_12 rfl 0 rfl ?_
  refine jr_bipush (v := 48) x dX7_init_13 (by decide) ?_
  refine jr_newa (t := 0) (ty := .int) (N := 48) (a0 := (48, .inl (fun _ => 0))) x dX7_init_15 rfl (List.mem_cons_of_mem _ wi_41) rfl (fun _ => rfl) (by decide) (by decide) (by decide) (by decide) (by decide) (fun q2 => ?_)
  refine jr_put x tyX7 dX7_init_17 rfl (fun w h => List.mem_cons_of_mem _ (inX7 w h)) tyX7_ok nmX7 1 (by decide) (List.mem_cons_of_mem _ wi_489) rfl rfl rfl 0 rfl (Nat.le_of_ble_eq_true rfl) (w' := [(a0, .inr (7, [.ref q1, .ref q2, .null, .int 0, .null, .null, .null, .null, .null, .null, .null, .null, .null, .null, .null, .int 0, .null, .int 0, .int 0, .null, .null, .null, .int 0, .null, .null, .int 0, .int 0, .null, .null, .null, .null, .int 0, .null, .null, .int 0, .null, .null])), (q1, .inl (cA 0, 48, .inl (fun _ => 0))), (q2, .inl (cA 0, 48, .inl (fun _ => 0)))]) rfl ?_
  refine jr_aload_n x dX7_init_20 rfl 0 rfl ?_
  refine jr_bipush (v := 48) x dX7_init_21 (by decide) ?_
  refine jr_newa (t := 0) (ty := .int) (N := 48) (a0 := (48, .inl (fun _ => 0))) x dX7_init_23 rfl (List.mem_cons_of_mem _ wi_41) rfl (fun _ => rfl) (by decide) (by decide) (by decide) (by decide) (by decide) (fun q3 => ?_)
  refine jr_put x tyX7 dX7_init_25 rfl (fun w h => List.mem_cons_of_mem _ (inX7 w h)) tyX7_ok nmX7 2 (by decide) (List.mem_cons_of_mem _ wi_490) rfl rfl rfl 0 rfl (Nat.le_of_ble_eq_true rfl) (w' := [(a0, .inr (7, [.ref q1, .ref q2, .ref q3, .int 0, .null, .null, .null, .null, .null, .null, .null, .null, .null, .null, .null, .int 0, .null, .int 0, .int 0, .null, .null, .null, .int 0, .null, .null, .int 0, .int 0, .null, .null, .null, .null, .int 0, .null, .null, .int 0, .null, .null])), (q1, .inl (cA 0, 48, .inl (fun _ => 0))), (q2, .inl (cA 0, 48, .inl (fun _ => 0))), (q3, .inl (cA 0, 48, .inl (fun _ => 0)))]) rfl ?_
  refine jr_aload_n x dX7_init_28 rfl 0 rfl ?_
  refine jr_bipush (v := 8) x dX7_init_29 (by decide) ?_
  refine jr_newa (t := 0) (ty := .int) (N := 8) (a0 := (8, .inl (fun _ => 0))) x dX7_init_31 rfl (List.mem_cons_of_mem _ wi_41) rfl (fun _ => rfl) (by decide) (by decide) (by decide) (by decide) (by decide) (fun q4 => ?_)
  refine jr_put x tyX7 dX7_init_33 rfl (fun w h => List.mem_cons_of_mem _ (inX7 w h)) tyX7_ok nmX7 4 (by decide) (List.mem_cons_of_mem _ wi_492) rfl rfl rfl 0 rfl (Nat.le_of_ble_eq_true rfl) (w' := [(a0, .inr (7, [.ref q1, .ref q2, .ref q3, .int 0, .ref q4, .null, .null, .null, .null, .null, .null, .null, .null, .null, .null, .int 0, .null, .int 0, .int 0, .null, .null, .null, .int 0, .null, .null, .int 0, .int 0, .null, .null, .null, .null, .int 0, .null, .null, .int 0, .null, .null])), (q1, .inl (cA 0, 48, .inl (fun _ => 0))), (q2, .inl (cA 0, 48, .inl (fun _ => 0))), (q3, .inl (cA 0, 48, .inl (fun _ => 0))), (q4, .inl (cA 0, 8, .inl (fun _ => 0)))]) rfl ?_
  refine jr_aload_n x dX7_init_36 rfl 0 rfl ?_
  refine jr_bipush (v := 32) x dX7_init_37 (by decide) ?_
  refine jr_newa (t := 0) (ty := .int) (N := 32) (a0 := (32, .inl (fun _ => 0))) x dX7_init_39 rfl (List.mem_cons_of_mem _ wi_41) rfl (fun _ => rfl) (by decide) (by decide) (by decide) (by decide) (by decide) (fun q5 => ?_)
  refine jr_put x tyX7 dX7_init_41 rfl (fun w h => List.mem_cons_of_mem _ (inX7 w h)) tyX7_ok nmX7 5 (by decide) (List.mem_cons_of_mem _ wi_493) rfl rfl rfl 0 rfl (Nat.le_of_ble_eq_true rfl) (w' := [(a0, .inr (7, [.ref q1, .ref q2, .ref q3, .int 0, .ref q4, .ref q5, .null, .null, .null, .null, .null, .null, .null, .null, .null, .int 0, .null, .int 0, .int 0, .null, .null, .null, .int 0, .null, .null, .int 0, .int 0, .null, .null, .null, .null, .int 0, .null, .null, .int 0, .null, .null])), (q1, .inl (cA 0, 48, .inl (fun _ => 0))), (q2, .inl (cA 0, 48, .inl (fun _ => 0))), (q3, .inl (cA 0, 48, .inl (fun _ => 0))), (q4, .inl (cA 0, 8, .inl (fun _ => 0))), (q5, .inl (cA 0, 32, .inl (fun _ => 0)))]) rfl ?_
  refine jr_aload_n x dX7_init_44 rfl 0 rfl ?_
  refine jr_bipush (v := 8) x dX7_init_45 (by decide) ?_
  refine jr_newa (t := 0) (ty := .int) (N := 8) (a0 := (8, .inl (fun _ => 0))) x dX7_init_47 rfl (List.mem_cons_of_mem _ wi_41) rfl (fun _ => rfl) (by decide) (by decide) (by decide) (by decide) (by decide) (fun q6 => ?_)
  refine jr_put x tyX7 dX7_init_49 rfl (fun w h => List.mem_cons_of_mem _ (inX7 w h)) tyX7_ok nmX7 6 (by decide) (List.mem_cons_of_mem _ wi_494) rfl rfl rfl 0 rfl (Nat.le_of_ble_eq_true rfl) (w' := [(a0, .inr (7, [.ref q1, .ref q2, .ref q3, .int 0, .ref q4, .ref q5, .ref q6, .null, .null, .null, .null, .null, .null, .null, .null, .int 0, .null, .int 0, .int 0, .null, .null, .null, .int 0, .null, .null, .int 0, .int 0, .null, .null, .null, .null, .int 0, .null, .null, .int 0, .null, .null])), (q1, .inl (cA 0, 48, .inl (fun _ => 0))), (q2, .inl (cA 0, 48, .inl (fun _ => 0))), (q3, .inl (cA 0, 48, .inl (fun _ => 0))), (q4, .inl (cA 0, 8, .inl (fun _ => 0))), (q5, .inl (cA 0, 32, .inl (fun _ => 0))), (q6, .inl (cA 0, 8, .inl (fun _ => 0)))]) rfl ?_
  refine jr_aload_n x dX7_init_52 rfl 0 rfl ?_
  refine jr_bipush (v := 8) x dX7_init_53 (by decide) ?_
  refine jr_newa (t := 0) (ty := .int) (N := 8) (a0 := (8, .inl (fun _ => 0))) x dX7_init_55 rfl (List.mem_cons_of_mem _ wi_41) rfl (fun _ => rfl) (by decide) (by decide) (by decide) (by decide) (by decide) (fun q7 => ?_)
  refine jr_put x tyX7 dX7_init_57 rfl (fun w h => List.mem_cons_of_mem _ (inX7 w h)) tyX7_ok nmX7 7 (by decide) (List.mem_cons_of_mem _ wi_495) rfl rfl rfl 0 rfl (Nat.le_of_ble_eq_true rfl) (w' := [(a0, .inr (7, [.ref q1, .ref q2, .ref q3, .int 0, .ref q4, .ref q5, .ref q6, .ref q7, .null, .null, .null, .null, .null, .null, .null, .int 0, .null, .int 0, .int 0, .null, .null, .null, .int 0, .null, .null, .int 0, .int 0, .null, .null, .null, .null, .int 0, .null, .null, .int 0, .null, .null])), (q1, .inl (cA 0, 48, .inl (fun _ => 0))), (q2, .inl (cA 0, 48, .inl (fun _ => 0))), (q3, .inl (cA 0, 48, .inl (fun _ => 0))), (q4, .inl (cA 0, 8, .inl (fun _ => 0))), (q5, .inl (cA 0, 32, .inl (fun _ => 0))), (q6, .inl (cA 0, 8, .inl (fun _ => 0))), (q7, .inl (cA 0, 8, .inl (fun _ => 0)))]) rfl ?_
  refine jr_aload_n x dX7_init_60 rfl 0 rfl ?_
  refine jr_bipush (v := 8) x dX7_init_61 (by decide) ?_
  refine jr_newa (t := 0) (ty := .int) (N := 8) (a0 := (8, .inl (fun _ => 0))) x dX7_init_63 rfl (List.mem_cons_of_mem _ wi_41) rfl (fun _ => rfl) (by decide) (by decide) (by decide) (by decide) (by decide) (fun q8 => ?_)
  refine jr_put x tyX7 dX7_init_65 rfl (fun w h => List.mem_cons_of_mem _ (inX7 w h)) tyX7_ok nmX7 8 (by decide) (List.mem_cons_of_mem _ wi_496) rfl rfl rfl 0 rfl (Nat.le_of_ble_eq_true rfl) (w' := [(a0, .inr (7, [.ref q1, .ref q2, .ref q3, .int 0, .ref q4, .ref q5, .ref q6, .ref q7, .ref q8, .null, .null, .null, .null, .null, .null, .int 0, .null, .int 0, .int 0, .null, .null, .null, .int 0, .null, .null, .int 0, .int 0, .null, .null, .null, .null, .int 0, .null, .null, .int 0, .null, .null])), (q1, .inl (cA 0, 48, .inl (fun _ => 0))), (q2, .inl (cA 0, 48, .inl (fun _ => 0))), (q3, .inl (cA 0, 48, .inl (fun _ => 0))), (q4, .inl (cA 0, 8, .inl (fun _ => 0))), (q5, .inl (cA 0, 32, .inl (fun _ => 0))), (q6, .inl (cA 0, 8, .inl (fun _ => 0))), (q7, .inl (cA 0, 8, .inl (fun _ => 0))), (q8, .inl (cA 0, 8, .inl (fun _ => 0)))]) rfl ?_
  refine jr_aload_n x dX7_init_68 rfl 0 rfl ?_
  refine jr_bipush (v := 8) x dX7_init_69 (by decide) ?_
  refine jr_newa (t := 3) (ty := .boolean) (N := 8) (a0 := (8, .inl (fun _ => 0))) x dX7_init_71 rfl (List.mem_cons_of_mem _ wi_85) rfl (fun _ => rfl) (by decide) (by decide) (by decide) (by decide) (by decide) (fun q9 => ?_)
  refine jr_put x tyX7 dX7_init_73 rfl (fun w h => List.mem_cons_of_mem _ (inX7 w h)) tyX7_ok nmX7 9 (by decide) (List.mem_cons_of_mem _ wi_497) rfl rfl rfl 0 rfl (Nat.le_of_ble_eq_true rfl) (w' := [(a0, .inr (7, [.ref q1, .ref q2, .ref q3, .int 0, .ref q4, .ref q5, .ref q6, .ref q7, .ref q8, .ref q9, .null, .null, .null, .null, .null, .int 0, .null, .int 0, .int 0, .null, .null, .null, .int 0, .null, .null, .int 0, .int 0, .null, .null, .null, .null, .int 0, .null, .null, .int 0, .null, .null])), (q1, .inl (cA 0, 48, .inl (fun _ => 0))), (q2, .inl (cA 0, 48, .inl (fun _ => 0))), (q3, .inl (cA 0, 48, .inl (fun _ => 0))), (q4, .inl (cA 0, 8, .inl (fun _ => 0))), (q5, .inl (cA 0, 32, .inl (fun _ => 0))), (q6, .inl (cA 0, 8, .inl (fun _ => 0))), (q7, .inl (cA 0, 8, .inl (fun _ => 0))), (q8, .inl (cA 0, 8, .inl (fun _ => 0))), (q9, .inl (cA 3, 8, .inl (fun _ => 0)))]) rfl ?_
  refine jr_aload_n x dX7_init_76 rfl 0 rfl ?_
  refine jr_bipush (v := 8) x dX7_init_77 (by decide) ?_
  refine jr_newa (t := 0) (ty := .int) (N := 8) (a0 := (8, .inl (fun _ => 0))) x dX7_init_79 rfl (List.mem_cons_of_mem _ wi_41) rfl (fun _ => rfl) (by decide) (by decide) (by decide) (by decide) (by decide) (fun q10 => ?_)
  refine jr_put x tyX7 dX7_init_81 rfl (fun w h => List.mem_cons_of_mem _ (inX7 w h)) tyX7_ok nmX7 10 (by decide) (List.mem_cons_of_mem _ wi_498) rfl rfl rfl 0 rfl (Nat.le_of_ble_eq_true rfl) (w' := [(a0, .inr (7, [.ref q1, .ref q2, .ref q3, .int 0, .ref q4, .ref q5, .ref q6, .ref q7, .ref q8, .ref q9, .ref q10, .null, .null, .null, .null, .int 0, .null, .int 0, .int 0, .null, .null, .null, .int 0, .null, .null, .int 0, .int 0, .null, .null, .null, .null, .int 0, .null, .null, .int 0, .null, .null])), (q1, .inl (cA 0, 48, .inl (fun _ => 0))), (q2, .inl (cA 0, 48, .inl (fun _ => 0))), (q3, .inl (cA 0, 48, .inl (fun _ => 0))), (q4, .inl (cA 0, 8, .inl (fun _ => 0))), (q5, .inl (cA 0, 32, .inl (fun _ => 0))), (q6, .inl (cA 0, 8, .inl (fun _ => 0))), (q7, .inl (cA 0, 8, .inl (fun _ => 0))), (q8, .inl (cA 0, 8, .inl (fun _ => 0))), (q9, .inl (cA 3, 8, .inl (fun _ => 0))), (q10, .inl (cA 0, 8, .inl (fun _ => 0)))]) rfl ?_
  refine jr_aload_n x dX7_init_84 rfl 0 rfl ?_
  refine jr_bipush (v := 8) x dX7_init_85 (by decide) ?_
  refine jr_newa (t := 3) (ty := .boolean) (N := 8) (a0 := (8, .inl (fun _ => 0))) x dX7_init_87 rfl (List.mem_cons_of_mem _ wi_85) rfl (fun _ => rfl) (by decide) (by decide) (by decide) (by decide) (by decide) (fun q11 => ?_)
  refine jr_put x tyX7 dX7_init_89 rfl (fun w h => List.mem_cons_of_mem _ (inX7 w h)) tyX7_ok nmX7 11 (by decide) (List.mem_cons_of_mem _ wi_499) rfl rfl rfl 0 rfl (Nat.le_of_ble_eq_true rfl) (w' := [(a0, .inr (7, [.ref q1, .ref q2, .ref q3, .int 0, .ref q4, .ref q5, .ref q6, .ref q7, .ref q8, .ref q9, .ref q10, .ref q11, .null, .null, .null, .int 0, .null, .int 0, .int 0, .null, .null, .null, .int 0, .null, .null, .int 0, .int 0, .null, .null, .null, .null, .int 0, .null, .null, .int 0, .null, .null])), (q1, .inl (cA 0, 48, .inl (fun _ => 0))), (q2, .inl (cA 0, 48, .inl (fun _ => 0))), (q3, .inl (cA 0, 48, .inl (fun _ => 0))), (q4, .inl (cA 0, 8, .inl (fun _ => 0))), (q5, .inl (cA 0, 32, .inl (fun _ => 0))), (q6, .inl (cA 0, 8, .inl (fun _ => 0))), (q7, .inl (cA 0, 8, .inl (fun _ => 0))), (q8, .inl (cA 0, 8, .inl (fun _ => 0))), (q9, .inl (cA 3, 8, .inl (fun _ => 0))), (q10, .inl (cA 0, 8, .inl (fun _ => 0))), (q11, .inl (cA 3, 8, .inl (fun _ => 0)))]) rfl ?_
  refine jr_aload_n x dX7_init_92 rfl 0 rfl ?_
  refine jr_bipush (v := 8) x dX7_init_93 (by decide) ?_
  refine jr_newa (t := 0) (ty := .int) (N := 8) (a0 := (8, .inl (fun _ => 0))) x dX7_init_95 rfl (List.mem_cons_of_mem _ wi_41) rfl (fun _ => rfl) (by decide) (by decide) (by decide) (by decide) (by decide) (fun q12 => ?_)
  refine jr_put x tyX7 dX7_init_97 rfl (fun w h => List.mem_cons_of_mem _ (inX7 w h)) tyX7_ok nmX7 12 (by decide) (List.mem_cons_of_mem _ wi_500) rfl rfl rfl 0 rfl (Nat.le_of_ble_eq_true rfl) (w' := [(a0, .inr (7, [.ref q1, .ref q2, .ref q3, .int 0, .ref q4, .ref q5, .ref q6, .ref q7, .ref q8, .ref q9, .ref q10, .ref q11, .ref q12, .null, .null, .int 0, .null, .int 0, .int 0, .null, .null, .null, .int 0, .null, .null, .int 0, .int 0, .null, .null, .null, .null, .int 0, .null, .null, .int 0, .null, .null])), (q1, .inl (cA 0, 48, .inl (fun _ => 0))), (q2, .inl (cA 0, 48, .inl (fun _ => 0))), (q3, .inl (cA 0, 48, .inl (fun _ => 0))), (q4, .inl (cA 0, 8, .inl (fun _ => 0))), (q5, .inl (cA 0, 32, .inl (fun _ => 0))), (q6, .inl (cA 0, 8, .inl (fun _ => 0))), (q7, .inl (cA 0, 8, .inl (fun _ => 0))), (q8, .inl (cA 0, 8, .inl (fun _ => 0))), (q9, .inl (cA 3, 8, .inl (fun _ => 0))), (q10, .inl (cA 0, 8, .inl (fun _ => 0))), (q11, .inl (cA 3, 8, .inl (fun _ => 0))), (q12, .inl (cA 0, 8, .inl (fun _ => 0)))]) rfl ?_
  refine jr_aload_n x dX7_init_100 rfl 0 rfl ?_
  refine jr_bipush (v := 8) x dX7_init_101 (by decide) ?_
  refine jr_newa (t := 0) (ty := .int) (N := 8) (a0 := (8, .inl (fun _ => 0))) x dX7_init_103 rfl (List.mem_cons_of_mem _ wi_41) rfl (fun _ => rfl) (by decide) (by decide) (by decide) (by decide) (by decide) (fun q13 => ?_)
  refine jr_put x tyX7 dX7_init_105 rfl (fun w h => List.mem_cons_of_mem _ (inX7 w h)) tyX7_ok nmX7 13 (by decide) (List.mem_cons_of_mem _ wi_501) rfl rfl rfl 0 rfl (Nat.le_of_ble_eq_true rfl) (w' := [(a0, .inr (7, [.ref q1, .ref q2, .ref q3, .int 0, .ref q4, .ref q5, .ref q6, .ref q7, .ref q8, .ref q9, .ref q10, .ref q11, .ref q12, .ref q13, .null, .int 0, .null, .int 0, .int 0, .null, .null, .null, .int 0, .null, .null, .int 0, .int 0, .null, .null, .null, .null, .int 0, .null, .null, .int 0, .null, .null])), (q1, .inl (cA 0, 48, .inl (fun _ => 0))), (q2, .inl (cA 0, 48, .inl (fun _ => 0))), (q3, .inl (cA 0, 48, .inl (fun _ => 0))), (q4, .inl (cA 0, 8, .inl (fun _ => 0))), (q5, .inl (cA 0, 32, .inl (fun _ => 0))), (q6, .inl (cA 0, 8, .inl (fun _ => 0))), (q7, .inl (cA 0, 8, .inl (fun _ => 0))), (q8, .inl (cA 0, 8, .inl (fun _ => 0))), (q9, .inl (cA 3, 8, .inl (fun _ => 0))), (q10, .inl (cA 0, 8, .inl (fun _ => 0))), (q11, .inl (cA 3, 8, .inl (fun _ => 0))), (q12, .inl (cA 0, 8, .inl (fun _ => 0))), (q13, .inl (cA 0, 8, .inl (fun _ => 0)))]) rfl ?_
  refine jr_aload_n x dX7_init_108 rfl 0 rfl ?_
  refine jr_bipush (v := 24) x dX7_init_109 (by decide) ?_
  refine jr_newa (t := 0) (ty := .int) (N := 24) (a0 := (24, .inl (fun _ => 0))) x dX7_init_111 rfl (List.mem_cons_of_mem _ wi_41) rfl (fun _ => rfl) (by decide) (by decide) (by decide) (by decide) (by decide) (fun q14 => ?_)
  refine jr_put x tyX7 dX7_init_113 rfl (fun w h => List.mem_cons_of_mem _ (inX7 w h)) tyX7_ok nmX7 14 (by decide) (List.mem_cons_of_mem _ wi_502) rfl rfl rfl 0 rfl (Nat.le_of_ble_eq_true rfl) (w' := [(a0, .inr (7, [.ref q1, .ref q2, .ref q3, .int 0, .ref q4, .ref q5, .ref q6, .ref q7, .ref q8, .ref q9, .ref q10, .ref q11, .ref q12, .ref q13, .ref q14, .int 0, .null, .int 0, .int 0, .null, .null, .null, .int 0, .null, .null, .int 0, .int 0, .null, .null, .null, .null, .int 0, .null, .null, .int 0, .null, .null])), (q1, .inl (cA 0, 48, .inl (fun _ => 0))), (q2, .inl (cA 0, 48, .inl (fun _ => 0))), (q3, .inl (cA 0, 48, .inl (fun _ => 0))), (q4, .inl (cA 0, 8, .inl (fun _ => 0))), (q5, .inl (cA 0, 32, .inl (fun _ => 0))), (q6, .inl (cA 0, 8, .inl (fun _ => 0))), (q7, .inl (cA 0, 8, .inl (fun _ => 0))), (q8, .inl (cA 0, 8, .inl (fun _ => 0))), (q9, .inl (cA 3, 8, .inl (fun _ => 0))), (q10, .inl (cA 0, 8, .inl (fun _ => 0))), (q11, .inl (cA 3, 8, .inl (fun _ => 0))), (q12, .inl (cA 0, 8, .inl (fun _ => 0))), (q13, .inl (cA 0, 8, .inl (fun _ => 0))), (q14, .inl (cA 0, 24, .inl (fun _ => 0)))]) rfl ?_
  refine jr_aload_n x dX7_init_116 rfl 0 rfl ?_
  refine jr_bipush (v := 8) x dX7_init_117 (by decide) ?_
  refine jr_newa (t := 0) (ty := .int) (N := 8) (a0 := (8, .inl (fun _ => 0))) x dX7_init_119 rfl (List.mem_cons_of_mem _ wi_41) rfl (fun _ => rfl) (by decide) (by decide) (by decide) (by decide) (by decide) (fun q15 => ?_)
  refine jr_put x tyX7 dX7_init_121 rfl (fun w h => List.mem_cons_of_mem _ (inX7 w h)) tyX7_ok nmX7 16 (by decide) (List.mem_cons_of_mem _ wi_504) rfl rfl rfl 0 rfl (Nat.le_of_ble_eq_true rfl) (w' := [(a0, .inr (7, [.ref q1, .ref q2, .ref q3, .int 0, .ref q4, .ref q5, .ref q6, .ref q7, .ref q8, .ref q9, .ref q10, .ref q11, .ref q12, .ref q13, .ref q14, .int 0, .ref q15, .int 0, .int 0, .null, .null, .null, .int 0, .null, .null, .int 0, .int 0, .null, .null, .null, .null, .int 0, .null, .null, .int 0, .null, .null])), (q1, .inl (cA 0, 48, .inl (fun _ => 0))), (q2, .inl (cA 0, 48, .inl (fun _ => 0))), (q3, .inl (cA 0, 48, .inl (fun _ => 0))), (q4, .inl (cA 0, 8, .inl (fun _ => 0))), (q5, .inl (cA 0, 32, .inl (fun _ => 0))), (q6, .inl (cA 0, 8, .inl (fun _ => 0))), (q7, .inl (cA 0, 8, .inl (fun _ => 0))), (q8, .inl (cA 0, 8, .inl (fun _ => 0))), (q9, .inl (cA 3, 8, .inl (fun _ => 0))), (q10, .inl (cA 0, 8, .inl (fun _ => 0))), (q11, .inl (cA 3, 8, .inl (fun _ => 0))), (q12, .inl (cA 0, 8, .inl (fun _ => 0))), (q13, .inl (cA 0, 8, .inl (fun _ => 0))), (q14, .inl (cA 0, 24, .inl (fun _ => 0))), (q15, .inl (cA 0, 8, .inl (fun _ => 0)))]) rfl ?_
  refine jr_aload_n x dX7_init_124 rfl 0 rfl ?_
  refine jr_bipush (v := 24) x dX7_init_125 (by decide) ?_
  refine jr_newa (t := 0) (ty := .int) (N := 24) (a0 := (24, .inl (fun _ => 0))) x dX7_init_127 rfl (List.mem_cons_of_mem _ wi_41) rfl (fun _ => rfl) (by decide) (by decide) (by decide) (by decide) (by decide) (fun q16 => ?_)
  refine jr_put x tyX7 dX7_init_129 rfl (fun w h => List.mem_cons_of_mem _ (inX7 w h)) tyX7_ok nmX7 19 (by decide) (List.mem_cons_of_mem _ wi_507) rfl rfl rfl 0 rfl (Nat.le_of_ble_eq_true rfl) (w' := [(a0, .inr (7, [.ref q1, .ref q2, .ref q3, .int 0, .ref q4, .ref q5, .ref q6, .ref q7, .ref q8, .ref q9, .ref q10, .ref q11, .ref q12, .ref q13, .ref q14, .int 0, .ref q15, .int 0, .int 0, .ref q16, .null, .null, .int 0, .null, .null, .int 0, .int 0, .null, .null, .null, .null, .int 0, .null, .null, .int 0, .null, .null])), (q1, .inl (cA 0, 48, .inl (fun _ => 0))), (q2, .inl (cA 0, 48, .inl (fun _ => 0))), (q3, .inl (cA 0, 48, .inl (fun _ => 0))), (q4, .inl (cA 0, 8, .inl (fun _ => 0))), (q5, .inl (cA 0, 32, .inl (fun _ => 0))), (q6, .inl (cA 0, 8, .inl (fun _ => 0))), (q7, .inl (cA 0, 8, .inl (fun _ => 0))), (q8, .inl (cA 0, 8, .inl (fun _ => 0))), (q9, .inl (cA 3, 8, .inl (fun _ => 0))), (q10, .inl (cA 0, 8, .inl (fun _ => 0))), (q11, .inl (cA 3, 8, .inl (fun _ => 0))), (q12, .inl (cA 0, 8, .inl (fun _ => 0))), (q13, .inl (cA 0, 8, .inl (fun _ => 0))), (q14, .inl (cA 0, 24, .inl (fun _ => 0))), (q15, .inl (cA 0, 8, .inl (fun _ => 0))), (q16, .inl (cA 0, 24, .inl (fun _ => 0)))]) rfl ?_
  refine jr_aload_n x dX7_init_132 rfl 0 rfl ?_
  refine jr_bipush (v := 24) x dX7_init_133 (by decide) ?_
  refine jr_newa (t := 0) (ty := .int) (N := 24) (a0 := (24, .inl (fun _ => 0))) x dX7_init_135 rfl (List.mem_cons_of_mem _ wi_41) rfl (fun _ => rfl) (by decide) (by decide) (by decide) (by decide) (by decide) (fun q17 => ?_)
  refine jr_put x tyX7 dX7_init_137 rfl (fun w h => List.mem_cons_of_mem _ (inX7 w h)) tyX7_ok nmX7 20 (by decide) (List.mem_cons_of_mem _ wi_508) rfl rfl rfl 0 rfl (Nat.le_of_ble_eq_true rfl) (w' := [(a0, .inr (7, [.ref q1, .ref q2, .ref q3, .int 0, .ref q4, .ref q5, .ref q6, .ref q7, .ref q8, .ref q9, .ref q10, .ref q11, .ref q12, .ref q13, .ref q14, .int 0, .ref q15, .int 0, .int 0, .ref q16, .ref q17, .null, .int 0, .null, .null, .int 0, .int 0, .null, .null, .null, .null, .int 0, .null, .null, .int 0, .null, .null])), (q1, .inl (cA 0, 48, .inl (fun _ => 0))), (q2, .inl (cA 0, 48, .inl (fun _ => 0))), (q3, .inl (cA 0, 48, .inl (fun _ => 0))), (q4, .inl (cA 0, 8, .inl (fun _ => 0))), (q5, .inl (cA 0, 32, .inl (fun _ => 0))), (q6, .inl (cA 0, 8, .inl (fun _ => 0))), (q7, .inl (cA 0, 8, .inl (fun _ => 0))), (q8, .inl (cA 0, 8, .inl (fun _ => 0))), (q9, .inl (cA 3, 8, .inl (fun _ => 0))), (q10, .inl (cA 0, 8, .inl (fun _ => 0))), (q11, .inl (cA 3, 8, .inl (fun _ => 0))), (q12, .inl (cA 0, 8, .inl (fun _ => 0))), (q13, .inl (cA 0, 8, .inl (fun _ => 0))), (q14, .inl (cA 0, 24, .inl (fun _ => 0))), (q15, .inl (cA 0, 8, .inl (fun _ => 0))), (q16, .inl (cA 0, 24, .inl (fun _ => 0))), (q17, .inl (cA 0, 24, .inl (fun _ => 0)))]) rfl ?_
  refine jr_aload_n x dX7_init_140 rfl 0 rfl ?_
  refine jr_bipush (v := 24) x dX7_init_141 (by decide) ?_
  refine jr_newa (t := 0) (ty := .int) (N := 24) (a0 := (24, .inl (fun _ => 0))) x dX7_init_143 rfl (List.mem_cons_of_mem _ wi_41) rfl (fun _ => rfl) (by decide) (by decide) (by decide) (by decide) (by decide) (fun q18 => ?_)
  refine jr_put x tyX7 dX7_init_145 rfl (fun w h => List.mem_cons_of_mem _ (inX7 w h)) tyX7_ok nmX7 21 (by decide) (List.mem_cons_of_mem _ wi_509) rfl rfl rfl 0 rfl (Nat.le_of_ble_eq_true rfl) (w' := [(a0, .inr (7, [.ref q1, .ref q2, .ref q3, .int 0, .ref q4, .ref q5, .ref q6, .ref q7, .ref q8, .ref q9, .ref q10, .ref q11, .ref q12, .ref q13, .ref q14, .int 0, .ref q15, .int 0, .int 0, .ref q16, .ref q17, .ref q18, .int 0, .null, .null, .int 0, .int 0, .null, .null, .null, .null, .int 0, .null, .null, .int 0, .null, .null])), (q1, .inl (cA 0, 48, .inl (fun _ => 0))), (q2, .inl (cA 0, 48, .inl (fun _ => 0))), (q3, .inl (cA 0, 48, .inl (fun _ => 0))), (q4, .inl (cA 0, 8, .inl (fun _ => 0))), (q5, .inl (cA 0, 32, .inl (fun _ => 0))), (q6, .inl (cA 0, 8, .inl (fun _ => 0))), (q7, .inl (cA 0, 8, .inl (fun _ => 0))), (q8, .inl (cA 0, 8, .inl (fun _ => 0))), (q9, .inl (cA 3, 8, .inl (fun _ => 0))), (q10, .inl (cA 0, 8, .inl (fun _ => 0))), (q11, .inl (cA 3, 8, .inl (fun _ => 0))), (q12, .inl (cA 0, 8, .inl (fun _ => 0))), (q13, .inl (cA 0, 8, .inl (fun _ => 0))), (q14, .inl (cA 0, 24, .inl (fun _ => 0))), (q15, .inl (cA 0, 8, .inl (fun _ => 0))), (q16, .inl (cA 0, 24, .inl (fun _ => 0))), (q17, .inl (cA 0, 24, .inl (fun _ => 0))), (q18, .inl (cA 0, 24, .inl (fun _ => 0)))]) rfl ?_
  refine jr_aload_n x dX7_init_148 rfl 0 rfl ?_
  refine jr_bipush (v := 24) x dX7_init_149 (by decide) ?_
  refine jr_newa (t := 0) (ty := .int) (N := 24) (a0 := (24, .inl (fun _ => 0))) x dX7_init_151 rfl (List.mem_cons_of_mem _ wi_41) rfl (fun _ => rfl) (by decide) (by decide) (by decide) (by decide) (by decide) (fun q19 => ?_)
  refine jr_put x tyX7 dX7_init_153 rfl (fun w h => List.mem_cons_of_mem _ (inX7 w h)) tyX7_ok nmX7 23 (by decide) (List.mem_cons_of_mem _ wi_511) rfl rfl rfl 0 rfl (Nat.le_of_ble_eq_true rfl) (w' := [(a0, .inr (7, [.ref q1, .ref q2, .ref q3, .int 0, .ref q4, .ref q5, .ref q6, .ref q7, .ref q8, .ref q9, .ref q10, .ref q11, .ref q12, .ref q13, .ref q14, .int 0, .ref q15, .int 0, .int 0, .ref q16, .ref q17, .ref q18, .int 0, .ref q19, .null, .int 0, .int 0, .null, .null, .null, .null, .int 0, .null, .null, .int 0, .null, .null])), (q1, .inl (cA 0, 48, .inl (fun _ => 0))), (q2, .inl (cA 0, 48, .inl (fun _ => 0))), (q3, .inl (cA 0, 48, .inl (fun _ => 0))), (q4, .inl (cA 0, 8, .inl (fun _ => 0))), (q5, .inl (cA 0, 32, .inl (fun _ => 0))), (q6, .inl (cA 0, 8, .inl (fun _ => 0))), (q7, .inl (cA 0, 8, .inl (fun _ => 0))), (q8, .inl (cA 0, 8, .inl (fun _ => 0))), (q9, .inl (cA 3, 8, .inl (fun _ => 0))), (q10, .inl (cA 0, 8, .inl (fun _ => 0))), (q11, .inl (cA 3, 8, .inl (fun _ => 0))), (q12, .inl (cA 0, 8, .inl (fun _ => 0))), (q13, .inl (cA 0, 8, .inl (fun _ => 0))), (q14, .inl (cA 0, 24, .inl (fun _ => 0))), (q15, .inl (cA 0, 8, .inl (fun _ => 0))), (q16, .inl (cA 0, 24, .inl (fun _ => 0))), (q17, .inl (cA 0, 24, .inl (fun _ => 0))), (q18, .inl (cA 0, 24, .inl (fun _ => 0))), (q19, .inl (cA 0, 24, .inl (fun _ => 0)))]) rfl ?_
  refine jr_aload_n x dX7_init_156 rfl 0 rfl ?_
  refine jr_bipush (v := 24) x dX7_init_157 (by decide) ?_
  refine jr_newa (t := 0) (ty := .int) (N := 24) (a0 := (24, .inl (fun _ => 0))) x dX7_init_159 rfl (List.mem_cons_of_mem _ wi_41) rfl (fun _ => rfl) (by decide) (by decide) (by decide) (by decide) (by decide) (fun q20 => ?_)
  refine jr_put x tyX7 dX7_init_161 rfl (fun w h => List.mem_cons_of_mem _ (inX7 w h)) tyX7_ok nmX7 24 (by decide) (List.mem_cons_of_mem _ wi_512) rfl rfl rfl 0 rfl (Nat.le_of_ble_eq_true rfl) (w' := [(a0, .inr (7, [.ref q1, .ref q2, .ref q3, .int 0, .ref q4, .ref q5, .ref q6, .ref q7, .ref q8, .ref q9, .ref q10, .ref q11, .ref q12, .ref q13, .ref q14, .int 0, .ref q15, .int 0, .int 0, .ref q16, .ref q17, .ref q18, .int 0, .ref q19, .ref q20, .int 0, .int 0, .null, .null, .null, .null, .int 0, .null, .null, .int 0, .null, .null])), (q1, .inl (cA 0, 48, .inl (fun _ => 0))), (q2, .inl (cA 0, 48, .inl (fun _ => 0))), (q3, .inl (cA 0, 48, .inl (fun _ => 0))), (q4, .inl (cA 0, 8, .inl (fun _ => 0))), (q5, .inl (cA 0, 32, .inl (fun _ => 0))), (q6, .inl (cA 0, 8, .inl (fun _ => 0))), (q7, .inl (cA 0, 8, .inl (fun _ => 0))), (q8, .inl (cA 0, 8, .inl (fun _ => 0))), (q9, .inl (cA 3, 8, .inl (fun _ => 0))), (q10, .inl (cA 0, 8, .inl (fun _ => 0))), (q11, .inl (cA 3, 8, .inl (fun _ => 0))), (q12, .inl (cA 0, 8, .inl (fun _ => 0))), (q13, .inl (cA 0, 8, .inl (fun _ => 0))), (q14, .inl (cA 0, 24, .inl (fun _ => 0))), (q15, .inl (cA 0, 8, .inl (fun _ => 0))), (q16, .inl (cA 0, 24, .inl (fun _ => 0))), (q17, .inl (cA 0, 24, .inl (fun _ => 0))), (q18, .inl (cA 0, 24, .inl (fun _ => 0))), (q19, .inl (cA 0, 24, .inl (fun _ => 0))), (q20, .inl (cA 0, 24, .inl (fun _ => 0)))]) rfl ?_
  refine jr_aload_n x dX7_init_164 rfl 0 rfl ?_
  refine jr_bipush (v := 10) x dX7_init_165 (by decide) ?_
  refine jr_newa (t := 0) (ty := .int) (N := 10) (a0 := (10, .inl (fun _ => 0))) x dX7_init_167 rfl (List.mem_cons_of_mem _ wi_41) rfl (fun _ => rfl) (by decide) (by decide) (by decide) (by decide) (by decide) (fun q21 => ?_)
  refine jr_put x tyX7 dX7_init_169 rfl (fun w h => List.mem_cons_of_mem _ (inX7 w h)) tyX7_ok nmX7 27 (by decide) (List.mem_cons_of_mem _ wi_515) rfl rfl rfl 0 rfl (Nat.le_of_ble_eq_true rfl) (w' := [(a0, .inr (7, [.ref q1, .ref q2, .ref q3, .int 0, .ref q4, .ref q5, .ref q6, .ref q7, .ref q8, .ref q9, .ref q10, .ref q11, .ref q12, .ref q13, .ref q14, .int 0, .ref q15, .int 0, .int 0, .ref q16, .ref q17, .ref q18, .int 0, .ref q19, .ref q20, .int 0, .int 0, .ref q21, .null, .null, .null, .int 0, .null, .null, .int 0, .null, .null])), (q1, .inl (cA 0, 48, .inl (fun _ => 0))), (q2, .inl (cA 0, 48, .inl (fun _ => 0))), (q3, .inl (cA 0, 48, .inl (fun _ => 0))), (q4, .inl (cA 0, 8, .inl (fun _ => 0))), (q5, .inl (cA 0, 32, .inl (fun _ => 0))), (q6, .inl (cA 0, 8, .inl (fun _ => 0))), (q7, .inl (cA 0, 8, .inl (fun _ => 0))), (q8, .inl (cA 0, 8, .inl (fun _ => 0))), (q9, .inl (cA 3, 8, .inl (fun _ => 0))), (q10, .inl (cA 0, 8, .inl (fun _ => 0))), (q11, .inl (cA 3, 8, .inl (fun _ => 0))), (q12, .inl (cA 0, 8, .inl (fun _ => 0))), (q13, .inl (cA 0, 8, .inl (fun _ => 0))), (q14, .inl (cA 0, 24, .inl (fun _ => 0))), (q15, .inl (cA 0, 8, .inl (fun _ => 0))), (q16, .inl (cA 0, 24, .inl (fun _ => 0))), (q17, .inl (cA 0, 24, .inl (fun _ => 0))), (q18, .inl (cA 0, 24, .inl (fun _ => 0))), (q19, .inl (cA 0, 24, .inl (fun _ => 0))), (q20, .inl (cA 0, 24, .inl (fun _ => 0))), (q21, .inl (cA 0, 10, .inl (fun _ => 0)))]) rfl ?_
  refine jr_aload_n x dX7_init_172 rfl 0 rfl ?_
  refine jr_bipush (v := 10) x dX7_init_173 (by decide) ?_
  refine jr_newa (t := 0) (ty := .int) (N := 10) (a0 := (10, .inl (fun _ => 0))) x dX7_init_175 rfl (List.mem_cons_of_mem _ wi_41) rfl (fun _ => rfl) (by decide) (by decide) (by decide) (by decide) (by decide) (fun q22 => ?_)
  refine jr_put x tyX7 dX7_init_177 rfl (fun w h => List.mem_cons_of_mem _ (inX7 w h)) tyX7_ok nmX7 28 (by decide) (List.mem_cons_of_mem _ wi_516) rfl rfl rfl 0 rfl (Nat.le_of_ble_eq_true rfl) (w' := [(a0, .inr (7, [.ref q1, .ref q2, .ref q3, .int 0, .ref q4, .ref q5, .ref q6, .ref q7, .ref q8, .ref q9, .ref q10, .ref q11, .ref q12, .ref q13, .ref q14, .int 0, .ref q15, .int 0, .int 0, .ref q16, .ref q17, .ref q18, .int 0, .ref q19, .ref q20, .int 0, .int 0, .ref q21, .ref q22, .null, .null, .int 0, .null, .null, .int 0, .null, .null])), (q1, .inl (cA 0, 48, .inl (fun _ => 0))), (q2, .inl (cA 0, 48, .inl (fun _ => 0))), (q3, .inl (cA 0, 48, .inl (fun _ => 0))), (q4, .inl (cA 0, 8, .inl (fun _ => 0))), (q5, .inl (cA 0, 32, .inl (fun _ => 0))), (q6, .inl (cA 0, 8, .inl (fun _ => 0))), (q7, .inl (cA 0, 8, .inl (fun _ => 0))), (q8, .inl (cA 0, 8, .inl (fun _ => 0))), (q9, .inl (cA 3, 8, .inl (fun _ => 0))), (q10, .inl (cA 0, 8, .inl (fun _ => 0))), (q11, .inl (cA 3, 8, .inl (fun _ => 0))), (q12, .inl (cA 0, 8, .inl (fun _ => 0))), (q13, .inl (cA 0, 8, .inl (fun _ => 0))), (q14, .inl (cA 0, 24, .inl (fun _ => 0))), (q15, .inl (cA 0, 8, .inl (fun _ => 0))), (q16, .inl (cA 0, 24, .inl (fun _ => 0))), (q17, .inl (cA 0, 24, .inl (fun _ => 0))), (q18, .inl (cA 0, 24, .inl (fun _ => 0))), (q19, .inl (cA 0, 24, .inl (fun _ => 0))), (q20, .inl (cA 0, 24, .inl (fun _ => 0))), (q21, .inl (cA 0, 10, .inl (fun _ => 0))), (q22, .inl (cA 0, 10, .inl (fun _ => 0)))]) rfl ?_
  refine jr_aload_n x dX7_init_180 rfl 0 rfl ?_
  refine jr_bipush (v := 10) x dX7_init_181 (by decide) ?_
  refine jr_newa (t := 0) (ty := .int) (N := 10) (a0 := (10, .inl (fun _ => 0))) x dX7_init_183 rfl (List.mem_cons_of_mem _ wi_41) rfl (fun _ => rfl) (by decide) (by decide) (by decide) (by decide) (by decide) (fun q23 => ?_)
  refine jr_put x tyX7 dX7_init_185 rfl (fun w h => List.mem_cons_of_mem _ (inX7 w h)) tyX7_ok nmX7 29 (by decide) (List.mem_cons_of_mem _ wi_517) rfl rfl rfl 0 rfl (Nat.le_of_ble_eq_true rfl) (w' := [(a0, .inr (7, [.ref q1, .ref q2, .ref q3, .int 0, .ref q4, .ref q5, .ref q6, .ref q7, .ref q8, .ref q9, .ref q10, .ref q11, .ref q12, .ref q13, .ref q14, .int 0, .ref q15, .int 0, .int 0, .ref q16, .ref q17, .ref q18, .int 0, .ref q19, .ref q20, .int 0, .int 0, .ref q21, .ref q22, .ref q23, .null, .int 0, .null, .null, .int 0, .null, .null])), (q1, .inl (cA 0, 48, .inl (fun _ => 0))), (q2, .inl (cA 0, 48, .inl (fun _ => 0))), (q3, .inl (cA 0, 48, .inl (fun _ => 0))), (q4, .inl (cA 0, 8, .inl (fun _ => 0))), (q5, .inl (cA 0, 32, .inl (fun _ => 0))), (q6, .inl (cA 0, 8, .inl (fun _ => 0))), (q7, .inl (cA 0, 8, .inl (fun _ => 0))), (q8, .inl (cA 0, 8, .inl (fun _ => 0))), (q9, .inl (cA 3, 8, .inl (fun _ => 0))), (q10, .inl (cA 0, 8, .inl (fun _ => 0))), (q11, .inl (cA 3, 8, .inl (fun _ => 0))), (q12, .inl (cA 0, 8, .inl (fun _ => 0))), (q13, .inl (cA 0, 8, .inl (fun _ => 0))), (q14, .inl (cA 0, 24, .inl (fun _ => 0))), (q15, .inl (cA 0, 8, .inl (fun _ => 0))), (q16, .inl (cA 0, 24, .inl (fun _ => 0))), (q17, .inl (cA 0, 24, .inl (fun _ => 0))), (q18, .inl (cA 0, 24, .inl (fun _ => 0))), (q19, .inl (cA 0, 24, .inl (fun _ => 0))), (q20, .inl (cA 0, 24, .inl (fun _ => 0))), (q21, .inl (cA 0, 10, .inl (fun _ => 0))), (q22, .inl (cA 0, 10, .inl (fun _ => 0))), (q23, .inl (cA 0, 10, .inl (fun _ => 0)))]) rfl ?_
  refine jr_aload_n x dX7_init_188 rfl 0 rfl ?_
  refine jr_bipush (v := 10) x dX7_init_189 (by decide) ?_
  refine jr_newa (t := 3) (ty := .boolean) (N := 10) (a0 := (10, .inl (fun _ => 0))) x dX7_init_191 rfl (List.mem_cons_of_mem _ wi_85) rfl (fun _ => rfl) (by decide) (by decide) (by decide) (by decide) (by decide) (fun q24 => ?_)
  refine jr_put x tyX7 dX7_init_193 rfl (fun w h => List.mem_cons_of_mem _ (inX7 w h)) tyX7_ok nmX7 30 (by decide) (List.mem_cons_of_mem _ wi_518) rfl rfl rfl 0 rfl (Nat.le_of_ble_eq_true rfl) (w' := [(a0, .inr (7, [.ref q1, .ref q2, .ref q3, .int 0, .ref q4, .ref q5, .ref q6, .ref q7, .ref q8, .ref q9, .ref q10, .ref q11, .ref q12, .ref q13, .ref q14, .int 0, .ref q15, .int 0, .int 0, .ref q16, .ref q17, .ref q18, .int 0, .ref q19, .ref q20, .int 0, .int 0, .ref q21, .ref q22, .ref q23, .ref q24, .int 0, .null, .null, .int 0, .null, .null])), (q1, .inl (cA 0, 48, .inl (fun _ => 0))), (q2, .inl (cA 0, 48, .inl (fun _ => 0))), (q3, .inl (cA 0, 48, .inl (fun _ => 0))), (q4, .inl (cA 0, 8, .inl (fun _ => 0))), (q5, .inl (cA 0, 32, .inl (fun _ => 0))), (q6, .inl (cA 0, 8, .inl (fun _ => 0))), (q7, .inl (cA 0, 8, .inl (fun _ => 0))), (q8, .inl (cA 0, 8, .inl (fun _ => 0))), (q9, .inl (cA 3, 8, .inl (fun _ => 0))), (q10, .inl (cA 0, 8, .inl (fun _ => 0))), (q11, .inl (cA 3, 8, .inl (fun _ => 0))), (q12, .inl (cA 0, 8, .inl (fun _ => 0))), (q13, .inl (cA 0, 8, .inl (fun _ => 0))), (q14, .inl (cA 0, 24, .inl (fun _ => 0))), (q15, .inl (cA 0, 8, .inl (fun _ => 0))), (q16, .inl (cA 0, 24, .inl (fun _ => 0))), (q17, .inl (cA 0, 24, .inl (fun _ => 0))), (q18, .inl (cA 0, 24, .inl (fun _ => 0))), (q19, .inl (cA 0, 24, .inl (fun _ => 0))), (q20, .inl (cA 0, 24, .inl (fun _ => 0))), (q21, .inl (cA 0, 10, .inl (fun _ => 0))), (q22, .inl (cA 0, 10, .inl (fun _ => 0))), (q23, .inl (cA 0, 10, .inl (fun _ => 0))), (q24, .inl (cA 3, 10, .inl (fun _ => 0)))]) rfl ?_
  refine jr_aload_n x dX7_init_196 rfl 0 rfl ?_
  refine jr_bipush (v := 60) x dX7_init_197 (by decide) ?_
  refine jr_newa (t := 0) (ty := .int) (N := 60) (a0 := (60, .inl (fun _ => 0))) x dX7_init_199 rfl (List.mem_cons_of_mem _ wi_41) rfl (fun _ => rfl) (by decide) (by decide) (by decide) (by decide) (by decide) (fun q25 => ?_)
  refine jr_put x tyX7 dX7_init_201 rfl (fun w h => List.mem_cons_of_mem _ (inX7 w h)) tyX7_ok nmX7 32 (by decide) (List.mem_cons_of_mem _ wi_520) rfl rfl rfl 0 rfl (Nat.le_of_ble_eq_true rfl) (w' := [(a0, .inr (7, [.ref q1, .ref q2, .ref q3, .int 0, .ref q4, .ref q5, .ref q6, .ref q7, .ref q8, .ref q9, .ref q10, .ref q11, .ref q12, .ref q13, .ref q14, .int 0, .ref q15, .int 0, .int 0, .ref q16, .ref q17, .ref q18, .int 0, .ref q19, .ref q20, .int 0, .int 0, .ref q21, .ref q22, .ref q23, .ref q24, .int 0, .ref q25, .null, .int 0, .null, .null])), (q1, .inl (cA 0, 48, .inl (fun _ => 0))), (q2, .inl (cA 0, 48, .inl (fun _ => 0))), (q3, .inl (cA 0, 48, .inl (fun _ => 0))), (q4, .inl (cA 0, 8, .inl (fun _ => 0))), (q5, .inl (cA 0, 32, .inl (fun _ => 0))), (q6, .inl (cA 0, 8, .inl (fun _ => 0))), (q7, .inl (cA 0, 8, .inl (fun _ => 0))), (q8, .inl (cA 0, 8, .inl (fun _ => 0))), (q9, .inl (cA 3, 8, .inl (fun _ => 0))), (q10, .inl (cA 0, 8, .inl (fun _ => 0))), (q11, .inl (cA 3, 8, .inl (fun _ => 0))), (q12, .inl (cA 0, 8, .inl (fun _ => 0))), (q13, .inl (cA 0, 8, .inl (fun _ => 0))), (q14, .inl (cA 0, 24, .inl (fun _ => 0))), (q15, .inl (cA 0, 8, .inl (fun _ => 0))), (q16, .inl (cA 0, 24, .inl (fun _ => 0))), (q17, .inl (cA 0, 24, .inl (fun _ => 0))), (q18, .inl (cA 0, 24, .inl (fun _ => 0))), (q19, .inl (cA 0, 24, .inl (fun _ => 0))), (q20, .inl (cA 0, 24, .inl (fun _ => 0))), (q21, .inl (cA 0, 10, .inl (fun _ => 0))), (q22, .inl (cA 0, 10, .inl (fun _ => 0))), (q23, .inl (cA 0, 10, .inl (fun _ => 0))), (q24, .inl (cA 3, 10, .inl (fun _ => 0))), (q25, .inl (cA 0, 60, .inl (fun _ => 0)))]) rfl ?_
  refine jr_aload_n x dX7_init_204 rfl 0 rfl ?_
  refine jr_bipush (v := 60) x dX7_init_205 (by decide) ?_
  refine jr_newa (t := 0) (ty := .int) (N := 60) (a0 := (60, .inl (fun _ => 0))) x dX7_init_207 rfl (List.mem_cons_of_mem _ wi_41) rfl (fun _ => rfl) (by decide) (by decide) (by decide) (by decide) (by decide) (fun q26 => ?_)
  refine jr_put x tyX7 dX7_init_209 rfl (fun w h => List.mem_cons_of_mem _ (inX7 w h)) tyX7_ok nmX7 33 (by decide) (List.mem_cons_of_mem _ wi_521) rfl rfl rfl 0 rfl (Nat.le_of_ble_eq_true rfl) (w' := [(a0, .inr (7, [.ref q1, .ref q2, .ref q3, .int 0, .ref q4, .ref q5, .ref q6, .ref q7, .ref q8, .ref q9, .ref q10, .ref q11, .ref q12, .ref q13, .ref q14, .int 0, .ref q15, .int 0, .int 0, .ref q16, .ref q17, .ref q18, .int 0, .ref q19, .ref q20, .int 0, .int 0, .ref q21, .ref q22, .ref q23, .ref q24, .int 0, .ref q25, .ref q26, .int 0, .null, .null])), (q1, .inl (cA 0, 48, .inl (fun _ => 0))), (q2, .inl (cA 0, 48, .inl (fun _ => 0))), (q3, .inl (cA 0, 48, .inl (fun _ => 0))), (q4, .inl (cA 0, 8, .inl (fun _ => 0))), (q5, .inl (cA 0, 32, .inl (fun _ => 0))), (q6, .inl (cA 0, 8, .inl (fun _ => 0))), (q7, .inl (cA 0, 8, .inl (fun _ => 0))), (q8, .inl (cA 0, 8, .inl (fun _ => 0))), (q9, .inl (cA 3, 8, .inl (fun _ => 0))), (q10, .inl (cA 0, 8, .inl (fun _ => 0))), (q11, .inl (cA 3, 8, .inl (fun _ => 0))), (q12, .inl (cA 0, 8, .inl (fun _ => 0))), (q13, .inl (cA 0, 8, .inl (fun _ => 0))), (q14, .inl (cA 0, 24, .inl (fun _ => 0))), (q15, .inl (cA 0, 8, .inl (fun _ => 0))), (q16, .inl (cA 0, 24, .inl (fun _ => 0))), (q17, .inl (cA 0, 24, .inl (fun _ => 0))), (q18, .inl (cA 0, 24, .inl (fun _ => 0))), (q19, .inl (cA 0, 24, .inl (fun _ => 0))), (q20, .inl (cA 0, 24, .inl (fun _ => 0))), (q21, .inl (cA 0, 10, .inl (fun _ => 0))), (q22, .inl (cA 0, 10, .inl (fun _ => 0))), (q23, .inl (cA 0, 10, .inl (fun _ => 0))), (q24, .inl (cA 3, 10, .inl (fun _ => 0))), (q25, .inl (cA 0, 60, .inl (fun _ => 0))), (q26, .inl (cA 0, 60, .inl (fun _ => 0)))]) rfl ?_
  refine jr_aload_n x dX7_init_212 rfl 0 rfl ?_
  refine jr_sipush (v := 200) x dX7_init_213 (by decide) ?_
  refine jr_newa (t := 0) (ty := .int) (N := 200) (a0 := (200, .inl (fun _ => 0))) x dX7_init_216 rfl (List.mem_cons_of_mem _ wi_41) rfl (fun _ => rfl) (by decide) (by decide) (by decide) (by decide) (by decide) (fun q27 => ?_)
  refine jr_put x tyX7 dX7_init_218 rfl (fun w h => List.mem_cons_of_mem _ (inX7 w h)) tyX7_ok nmX7 35 (by decide) (List.mem_cons_of_mem _ wi_523) rfl rfl rfl 0 rfl (Nat.le_of_ble_eq_true rfl) (w' := [(a0, .inr (7, [.ref q1, .ref q2, .ref q3, .int 0, .ref q4, .ref q5, .ref q6, .ref q7, .ref q8, .ref q9, .ref q10, .ref q11, .ref q12, .ref q13, .ref q14, .int 0, .ref q15, .int 0, .int 0, .ref q16, .ref q17, .ref q18, .int 0, .ref q19, .ref q20, .int 0, .int 0, .ref q21, .ref q22, .ref q23, .ref q24, .int 0, .ref q25, .ref q26, .int 0, .ref q27, .null])), (q1, .inl (cA 0, 48, .inl (fun _ => 0))), (q2, .inl (cA 0, 48, .inl (fun _ => 0))), (q3, .inl (cA 0, 48, .inl (fun _ => 0))), (q4, .inl (cA 0, 8, .inl (fun _ => 0))), (q5, .inl (cA 0, 32, .inl (fun _ => 0))), (q6, .inl (cA 0, 8, .inl (fun _ => 0))), (q7, .inl (cA 0, 8, .inl (fun _ => 0))), (q8, .inl (cA 0, 8, .inl (fun _ => 0))), (q9, .inl (cA 3, 8, .inl (fun _ => 0))), (q10, .inl (cA 0, 8, .inl (fun _ => 0))), (q11, .inl (cA 3, 8, .inl (fun _ => 0))), (q12, .inl (cA 0, 8, .inl (fun _ => 0))), (q13, .inl (cA 0, 8, .inl (fun _ => 0))), (q14, .inl (cA 0, 24, .inl (fun _ => 0))), (q15, .inl (cA 0, 8, .inl (fun _ => 0))), (q16, .inl (cA 0, 24, .inl (fun _ => 0))), (q17, .inl (cA 0, 24, .inl (fun _ => 0))), (q18, .inl (cA 0, 24, .inl (fun _ => 0))), (q19, .inl (cA 0, 24, .inl (fun _ => 0))), (q20, .inl (cA 0, 24, .inl (fun _ => 0))), (q21, .inl (cA 0, 10, .inl (fun _ => 0))), (q22, .inl (cA 0, 10, .inl (fun _ => 0))), (q23, .inl (cA 0, 10, .inl (fun _ => 0))), (q24, .inl (cA 3, 10, .inl (fun _ => 0))), (q25, .inl (cA 0, 60, .inl (fun _ => 0))), (q26, .inl (cA 0, 60, .inl (fun _ => 0))), (q27, .inl (cA 0, 200, .inl (fun _ => 0)))]) rfl ?_
  refine jr_aload_n x dX7_init_221 rfl 0 rfl ?_
  refine jr_sipush (v := 200) x dX7_init_222 (by decide) ?_
  refine jr_newa (t := 0) (ty := .int) (N := 200) (a0 := (200, .inl (fun _ => 0))) x dX7_init_225 rfl (List.mem_cons_of_mem _ wi_41) rfl (fun _ => rfl) (by decide) (by decide) (by decide) (by decide) (by decide) (fun q28 => ?_)
  refine jr_put x tyX7 dX7_init_227 rfl (fun w h => List.mem_cons_of_mem _ (inX7 w h)) tyX7_ok nmX7 36 (by decide) (List.mem_cons_of_mem _ wi_524) rfl rfl rfl 0 rfl (Nat.le_of_ble_eq_true rfl) (w' := [(a0, .inr (7, [.ref q1, .ref q2, .ref q3, .int 0, .ref q4, .ref q5, .ref q6, .ref q7, .ref q8, .ref q9, .ref q10, .ref q11, .ref q12, .ref q13, .ref q14, .int 0, .ref q15, .int 0, .int 0, .ref q16, .ref q17, .ref q18, .int 0, .ref q19, .ref q20, .int 0, .int 0, .ref q21, .ref q22, .ref q23, .ref q24, .int 0, .ref q25, .ref q26, .int 0, .ref q27, .ref q28])), (q1, .inl (cA 0, 48, .inl (fun _ => 0))), (q2, .inl (cA 0, 48, .inl (fun _ => 0))), (q3, .inl (cA 0, 48, .inl (fun _ => 0))), (q4, .inl (cA 0, 8, .inl (fun _ => 0))), (q5, .inl (cA 0, 32, .inl (fun _ => 0))), (q6, .inl (cA 0, 8, .inl (fun _ => 0))), (q7, .inl (cA 0, 8, .inl (fun _ => 0))), (q8, .inl (cA 0, 8, .inl (fun _ => 0))), (q9, .inl (cA 3, 8, .inl (fun _ => 0))), (q10, .inl (cA 0, 8, .inl (fun _ => 0))), (q11, .inl (cA 3, 8, .inl (fun _ => 0))), (q12, .inl (cA 0, 8, .inl (fun _ => 0))), (q13, .inl (cA 0, 8, .inl (fun _ => 0))), (q14, .inl (cA 0, 24, .inl (fun _ => 0))), (q15, .inl (cA 0, 8, .inl (fun _ => 0))), (q16, .inl (cA 0, 24, .inl (fun _ => 0))), (q17, .inl (cA 0, 24, .inl (fun _ => 0))), (q18, .inl (cA 0, 24, .inl (fun _ => 0))), (q19, .inl (cA 0, 24, .inl (fun _ => 0))), (q20, .inl (cA 0, 24, .inl (fun _ => 0))), (q21, .inl (cA 0, 10, .inl (fun _ => 0))), (q22, .inl (cA 0, 10, .inl (fun _ => 0))), (q23, .inl (cA 0, 10, .inl (fun _ => 0))), (q24, .inl (cA 3, 10, .inl (fun _ => 0))), (q25, .inl (cA 0, 60, .inl (fun _ => 0))), (q26, .inl (cA 0, 60, .inl (fun _ => 0))), (q27, .inl (cA 0, 200, .inl (fun _ => 0))), (q28, .inl (cA 0, 200, .inl (fun _ => 0)))]) rfl ?_
  exact jr_widen (by decide) (by decide) (fin _ _ _ dX7_init_230 ⟨q1, q2, q3, q4, q5, q6, q7, q8, q9, q10, q11, q12, q13, q14, q15, q16, q17, q18, q19, q20, q21, q22, q23, q24, q25, q26, q27, q28, rfl⟩)
