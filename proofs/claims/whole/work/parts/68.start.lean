/-! The law from its entry -/
theorem wm_107 : (Jvm.Cond.instantiable "MailYard$Actor" (15 : Nat)) ∈ wT := inT1 (i := 107) rfl rfl
theorem wm_20 : (Jvm.Cond.instantiable "MailYard$Code" (3 : Nat)) ∈ wT := inT1 (i := 20) rfl rfl
theorem wm_43 : (Jvm.Cond.instantiable "MailYard$Line" (2 : Nat)) ∈ wT := inT1 (i := 43) rfl rfl
theorem wm_113 : (Jvm.Cond.instantiable "MailYard$Mailbox" (4 : Nat)) ∈ wT := inT1 (i := 113) rfl rfl
theorem wm_88 : (Jvm.Cond.instantiable "MailYard$Outputs" (3 : Nat)) ∈ wT := inT1 (i := 88) rfl rfl
theorem wm_60 : (Jvm.Cond.instantiable "MailYard$Timers" (5 : Nat)) ∈ wT := inT1 (i := 60) rfl rfl
theorem wm_12 : (Jvm.Cond.instantiable "MailYard" (11 : Nat)) ∈ wT := inT1 (i := 12) rfl rfl
theorem wm_483 : (Jvm.Cond.instantiable "MailYardModel" (37 : Nat)) ∈ wT := inT3 (i := 3) rfl rfl
theorem wm_41 : (Jvm.Cond.arrayClass Jvm.ClassFile.FieldType.int) ∈ wT := inT1 (i := 41) rfl rfl
theorem wm_86 : (Jvm.Cond.arrayClass Jvm.ClassFile.FieldType.long) ∈ wT := inT1 (i := 86) rfl rfl
theorem wm_85 : (Jvm.Cond.arrayClass Jvm.ClassFile.FieldType.boolean) ∈ wT := inT1 (i := 85) rfl rfl
theorem wm_11 : (Jvm.Cond.classLink "MailYardLaw" (7 : Nat) "MailYard") ∈ wT := inT1 (i := 11) rfl rfl
theorem wm_1 : (Jvm.Cond.initialized "MailYard") ∈ wT := inT1 (i := 1) rfl rfl
theorem wm_13 : (Jvm.Cond.methodLink "MailYardLaw" (9 : Nat) ({ cls := "MailYard", name := "<init>", desc := "()V" } : Jvm.MethodName)) ∈ wT := inT1 (i := 13) rfl rfl
theorem wm_14 : (Jvm.Cond.instanceMethod ({ cls := "MailYard", name := "<init>", desc := "()V" } : Jvm.MethodName)) ∈ wT := inT1 (i := 14) rfl rfl
theorem wm_482 : (Jvm.Cond.classLink "MailYardLaw" (10 : Nat) "MailYardModel") ∈ wT := inT3 (i := 2) rfl rfl
theorem wm_9 : (Jvm.Cond.initialized "MailYardModel") ∈ wT := inT1 (i := 9) rfl rfl
theorem wm_484 : (Jvm.Cond.methodLink "MailYardLaw" (12 : Nat) ({ cls := "MailYardModel", name := "<init>", desc := "()V" } : Jvm.MethodName)) ∈ wT := inT3 (i := 4) rfl rfl
theorem wm_485 : (Jvm.Cond.instanceMethod ({ cls := "MailYardModel", name := "<init>", desc := "()V" } : Jvm.MethodName)) ∈ wT := inT3 (i := 5) rfl rfl
theorem law_loop {p : Program} {l : Launch} {e : Env} {s : State} {m : MethodId} {args : Array Value} {below : List Frame} {meth : Method} {c : Code} {D : va_G} {cA : Nat → ClassId} {A : Nat → Prop} {Q : State → Prop} {b L : Nat} {xs : Nat → Int32} {ce sl : Nat} {ad ad2 : Nat → Nat → Nat} (x : Rx p s m args c code (kX6_init :: wT) "MailYardLaw" 4 D cA A) (hX : va_X b L xs s s.heap) (hbl : b < s.heap.size) (hbA : ¬ A b) (hL2 : L ≤ 2560) (hce : ce ≤ room_1.cells ∧ sl ≤ room_1.slots)
    (fin : ∀ w lv, Jr p l e room_1 s m args below meth c 4 D A Q w ce sl 625 lv [.int 1]) :
    ∀ (k j : Nat) (σ ρ : mS) (y : Yd) (ls : List (Int32 × Int32)), j + k = 512 → RC σ y → RRw ρ y ls [] → yE y = [] → LI y j → Jr p l e room_1 s m args below meth c 4 D A Q (wl cA ad σ clC ++ wl cA ad2 ρ clR) ce sl 18 [(3, .int (nI (5 * j))), (2, .ref (ad2 20 0)), (1, .ref (ad 0 0)), (0, .ref b)] [] := by
  have hL : L < 2 ^ 31 := by omega
  have hsub : (nI L - 5).toInt = (L : Int) - 5 := by
    rw [Int32.toInt_sub, nI_toInt hL]
    exact Int.bmod_eq_of_le (by simp; omega) (by simp; omega)
  intro k
  induction k with
  | zero =>
    intro j σ ρ y ls hjk hC hR hE a
    refine jr_iload_n x dL_18 rfl 0 rfl ?_
    refine jr_aload_n x dL_19 rfl 3 rfl ?_
    refine jr_slen x hX hbl hbA dL_20 ?_
    refine jr_iconst (v := 5) x dL_21 (by decide) ?_
    refine jr_isub x dL_22 ?_
    refine jr_icmp_gt (tgt := 624) x dL_23 rfl (fun _ => ?_) (fun h => absurd ?_ h)
    · exact jr_iconst (v := 1) x dL_624 (by decide) (fin _ _)
    · rw [Int32.lt_iff_toInt_lt]
      show (nI L - 5).toInt < (nI (5 * j)).toInt
      rw [hsub, nI_toInt (by omega)]
      omega
  | succ k ih =>
    intro j σ ρ y ls hjk hC hR hE a
    refine jr_iload_n x dL_18 rfl 0 rfl ?_
    refine jr_aload_n x dL_19 rfl 3 rfl ?_
    refine jr_slen x hX hbl hbA dL_20 ?_
    refine jr_iconst (v := 5) x dL_21 (by decide) ?_
    refine jr_isub x dL_22 ?_
    refine jr_icmp_gt (tgt := 624) x dL_23 rfl (fun _ => ?_) (fun h => ?_)
    · exact jr_iconst (v := 1) x dL_624 (by decide) (fin _ _)
    · have h := Int32.not_lt.mp h
      rw [Int32.le_iff_toInt_le] at h
      have h : (nI (5 * j)).toInt ≤ (nI L - 5).toInt := h
      rw [hsub, nI_toInt (by omega)] at h
      have hi : 5 * j + 5 ≤ L := by omega
      have next : ∀ (σ ρ : mS) (y : Yd) (ls : List (Int32 × Int32)), RC σ y → RRw ρ y ls [] → yE y = [] → LI y (j + 1) → Jr p l e room_1 s m args below meth c 4 D A Q (wl cA ad σ clC ++ wl cA ad2 ρ clR) ce sl 618 [(3, .int (nI (5 * j))), (2, .ref (ad2 20 0)), (1, .ref (ad 0 0)), (0, .ref b)] [] := by
        intro σ ρ y ls hC hR hE a
        refine jr_iinc x dL_618 0 rfl (nI_add (5 * j) 5) (by decide) (lv' := [(3, .int (nI (5 * j + 5))), (2, .ref (ad2 20 0)), (1, .ref (ad 0 0)), (0, .ref b)]) rfl ?_
        exact jr_goto (tgt := 18) x dL_621 rfl (ih (j + 1) σ ρ y ls (by omega) hC hR hE a)
      refine jr_aload_n x dL_26 rfl 3 rfl ?_
      refine jr_iload_n x dL_27 rfl 0 rfl ?_
      refine jr_sld x hX hbl hbA (vp_in_nI (n := 5 * j) (by omega) hL) (nI_clamp (by omega)) dL_28 ?_
      refine jr_bipush (v := 31) x dL_29 (by decide) ?_
      refine jr_iand x dL_31 ?_
      refine jr_tsw (ts := [128, 181, 214, 247, 260, 283, 296, 319, 352, 375, 398, 431, 464, 487, 510, 533, 546, 559, 572, 595]) (t := 618) x dL_32 rfl rfl rfl (fun i u hu hn => ?_) (fun _ => next σ ρ y ls hC hR hE a.nx)
      match i, hu, hn with
      | 0, hu, _ =>
        cases hu
        exact law_load x hX hbl hbA hL hce hC hR hE a (by omega) hi rfl rfl rfl rfl next
      | 1, hu, _ =>
        cases hu
        exact law_spawn x hX hbl hbA hL hce hC hR hE a (by omega) hi rfl rfl rfl rfl next
      | 2, hu, _ =>
        cases hu
        exact law_inject x hX hbl hbA hL hce hC hR hE a (by omega) hi rfl rfl rfl rfl next
      | 3, hu, _ =>
        cases hu
        exact law_step x hX hbl hbA hL hce hC hR hE a (by omega) hi rfl rfl rfl rfl next
      | 4, hu, _ =>
        cases hu
        exact law_run x hX hbl hbA hL hce hC hR hE a (by omega) hi rfl rfl rfl rfl next
      | 5, hu, _ =>
        cases hu
        exact law_tick x hX hbl hbA hL hce hC hR hE a (by omega) hi rfl rfl rfl rfl next
      | 6, hu, _ =>
        cases hu
        exact law_status x hX hbl hbA hL hce hC hR hE a (by omega) hi rfl rfl rfl rfl next
      | 7, hu, _ =>
        cases hu
        exact law_register x hX hbl hbA hL hce hC hR hE a (by omega) hi rfl rfl rfl rfl next
      | 8, hu, _ =>
        cases hu
        exact law_place x hX hbl hbA hL hce hC hR hE a (by omega) hi rfl rfl rfl rfl next
      | 9, hu, _ =>
        cases hu
        exact law_mail x hX hbl hbA hL hce hC hR hE a (by omega) hi rfl rfl rfl rfl next
      | 10, hu, _ =>
        cases hu
        exact law_message x hX hbl hbA hL hce hC hR hE a (by omega) hi rfl rfl rfl rfl next
      | 11, hu, _ =>
        cases hu
        exact law_linked x hX hbl hbA hL hce hC hR hE a (by omega) hi rfl rfl rfl rfl next
      | 12, hu, _ =>
        cases hu
        exact law_supervisor x hX hbl hbA hL hce hC hR hE a (by omega) hi rfl rfl rfl rfl next
      | 13, hu, _ =>
        cases hu
        exact law_restarts x hX hbl hbA hL hce hC hR hE a (by omega) hi rfl rfl rfl rfl next
      | 14, hu, _ =>
        cases hu
        exact law_queue x hX hbl hbA hL hce hC hR hE a (by omega) hi rfl rfl rfl rfl next
      | 15, hu, _ =>
        cases hu
        exact law_room x hX hbl hbA hL hce hC hR hE a (by omega) hi rfl rfl rfl rfl next
      | 16, hu, _ =>
        cases hu
        exact law_lost x hX hbl hbA hL hce hC hR hE a (by omega) hi rfl rfl rfl rfl next
      | 17, hu, _ =>
        cases hu
        exact law_timers x hX hbl hbA hL hce hC hR hE a (by omega) hi rfl rfl rfl rfl next
      | 18, hu, _ =>
        cases hu
        exact law_output x hX hbl hbA hL hce hC hR hE a (by omega) hi rfl rfl rfl rfl next
      | 19, hu, _ =>
        cases hu
        exact law_author x hX hbl hbA hL hce hC hR hE a (by omega) hi rfl rfl rfl rfl next
      | n + 20, hu, _ => simp at hu
theorem whole_start {p : Program} {e : Env} {s : State} {m : MethodId} {below : List Frame} {meth : Method} {c : Code} (l : Launch) {b L : Nat} {xs : Nat → Int32} (hL : L ≤ 2560) (C0 : lw_At p s m meth c b L xs) : W p l e room_1 s m #[Value.ref b] below meth c s.heap [] 0 0 (lw_Z below #[Value.ref b] s) (entryFrame m ([Value.ref b] : List Value).toArray 4) := by
  obtain ⟨hx, hb, hr, hml, hown, hts, hX, hbl, hlocks, hgv⟩ := C0
  have hw : ∀ w ∈ wT, w.before #[Value.ref b] s = true := fun w h => hts w (wT_lw w h)
  have hw2 : ∀ w ∈ kX6_init :: wT, w.before #[Value.ref b] s = true := fun w h => (List.mem_cons.mp h).elim (fun e => by rw [e]; exact hw _ kX6_init_in) (hw w)
  obtain ⟨c0, i0_, K0⟩ := u_known (C := RX0) (T := TX0) (N := 15) (n := 15) hw (fun w h => inX0 w h) (hw _ wm_107)
  obtain ⟨c1, i1_, K1⟩ := u_known (C := RX1) (T := TX1) (N := 3) (n := 3) hw (fun w h => inX1 w h) (hw _ wm_20)
  obtain ⟨c2, i2_, K2⟩ := u_known (C := RX2) (T := TX2) (N := 2) (n := 2) hw (fun w h => inX2 w h) (hw _ wm_43)
  obtain ⟨c3, i3_, K3⟩ := u_known (C := RX3) (T := TX3) (N := 4) (n := 4) hw (fun w h => inX3 w h) (hw _ wm_113)
  obtain ⟨c4, i4_, K4⟩ := u_known (C := RX4) (T := TX4) (N := 3) (n := 3) hw (fun w h => inX4 w h) (hw _ wm_88)
  obtain ⟨c5, i5_, K5⟩ := u_known (C := RX5) (T := TX5) (N := 5) (n := 5) hw (fun w h => inX5 w h) (hw _ wm_60)
  obtain ⟨c6, i6_, K6⟩ := u_known (C := RX6) (T := TX6) (N := 11) (n := 11) hw (fun w h => inX6 w h) (hw _ wm_12)
  obtain ⟨c7, i7_, K7⟩ := u_known (C := RX7) (T := TX7) (N := 37) (n := 37) hw (fun w h => inX7 w h) (hw _ wm_483)
  obtain ⟨ca0, ka0, m0, f0, g0, t0⟩ := Cond.arrayClass_spec (hw _ wm_41)
  obtain ⟨ca1, ka1, m1, f1, g1, t1⟩ := Cond.arrayClass_spec (hw _ wm_86)
  obtain ⟨ca3, ka3, m3, f3, g3, t3⟩ := Cond.arrayClass_spec (hw _ wm_85)
  have hov : (Cond.arrayOver (.object "MailYard$Actor")).before #[Value.ref b] s = true := hts _ (by decide +kernel)
  obtain ⟨m2, ca2, ka2, n2, _, g2, t2, f2⟩ := Cond.arrayOver_spec hov
  have zz : ZZ s := ⟨va_Nw.of rfl (hts (.methodLinkNest "MailYard" 18 ⟨"MailYard$Line", "<init>", "()V"⟩ "MailYard") (by decide +kernel)), va_Nw.of rfl (hts (.methodLinkNest "MailYard" 34 ⟨"MailYard$Timers", "<init>", "()V"⟩ "MailYard") (by decide +kernel)), va_Nw.of rfl (hts (.methodLinkNest "MailYard" 41 ⟨"MailYard$Outputs", "<init>", "()V"⟩ "MailYard") (by decide +kernel)), va_Nw.of rfl (hts (.methodLinkNest "MailYard$Actor" 15 ⟨"MailYard$Mailbox", "<init>", "()V"⟩ "MailYard") (by decide +kernel)), va_AO.of hov⟩
  obtain ⟨D, hDe⟩ : ∃ D : va_G, D = (fun c => match c with | 0 => c0 | 1 => c1 | 2 => c2 | 3 => c3 | 4 => c4 | 5 => c5 | 6 => c6 | _ => c7, fun c => match c with | 0 => i0_ | 1 => i1_ | 2 => i2_ | 3 => i3_ | 4 => i4_ | 5 => i5_ | 6 => i6_ | _ => i7_) := ⟨_, rfl⟩
  obtain ⟨cA, hcA⟩ : ∃ cA : Nat → ClassId, cA = fun t => match t with | 0 => ca0 | 1 => ca1 | 2 => ca2 | _ => ca3 := ⟨_, rfl⟩
  have hK : va_K D vwCl (tyA cA) s := by
    rw [hDe, hcA]
    refine ⟨fun c q h => ?_, fun k q h => ?_⟩
    · match c, h with
      | 0, h => cases h; exact K0
      | 1, h => cases h; exact K1
      | 2, h => cases h; exact K2
      | 3, h => cases h; exact K3
      | 4, h => cases h; exact K4
      | 5, h => cases h; exact K5
      | 6, h => cases h; exact K6
      | 7, h => cases h; exact K7
      | n + 8, h => simp at h
    · match k, h with
      | 0, h => cases h; exact ⟨fun N z => ⟨fun k h => (by cases h), ka0, g0, m0, t0⟩, f0⟩
      | 1, h => cases h; exact ⟨fun N z => ⟨fun k h => (by cases h), ka1, g1, m1, t1⟩, f1⟩
      | 2, h => cases h; exact ⟨fun N z => ⟨fun k h => (by cases h), ka2, g2, m2, t2⟩, ⟨ka2, m2, g2, t2, n2, f2⟩⟩
      | 3, h => cases h; exact ⟨fun N z => ⟨fun k h => (by cases h), ka3, g3, m3, t3⟩, f3⟩
      | n + 4, h => simp at h
  have x : Rx p s m #[Value.ref b] c code (kX6_init :: wT) "MailYardLaw" 4 D cA (fun q => s.heap.size ≤ q) := ⟨hx, hb, hml, hown, hw2, hK, fun q h => h⟩
  have hbA : ¬ s.heap.size ≤ b := Nat.not_le.mpr hbl
  have hl := lv_entry ([.ref b]) (n := 4) (Nat.le_of_ble_eq_true rfl)
  rw [lg_entry_eq]
  generalize (lg_sl ([.ref b]) ++ List.replicate (4 - (lg_sl ([.ref b])).length) Slot.unset).toArray = ls0 at hl ⊢
  have hl : lv_has ls0 4 [(0, .ref b)] := hl
  suffices hJ : Jr p l e room_1 s m #[Value.ref b] below meth c 4 D (fun q => s.heap.size ≤ q) (lw_Z below #[Value.ref b] s) [] 0 0 0 [(0, .ref b)] [] from hJ s.heap [] ls0 (fun k q h => by simp at h) ⟨fun i j a b h => by simp at h, fun k q h => by simp at h⟩ va_S.rf hl
  refine jr_new (ci := 6) (C := RX6) (T := TX6) (N := 11) (fs := [.null, .null, .null, .null, .null, .null, .null, .long 0, .int 0, .int 0, .int 0]) x tyX6 dL_0 rfl (fun w h => List.mem_cons_of_mem _ (inX6 w h)) tyX6_ok (List.mem_cons_of_mem _ wm_11) (List.mem_cons_of_mem _ wm_12) (List.mem_cons_of_mem _ wm_1) dfX6 (by decide) (by decide) (fun a0 => ?_)
  refine jr_dup x dL_3 ?_
  refine jr_makeI (as := []) x mkX6_init dL_4 (cwI 0 x.2.2.2.2.1 (gT (fun w h => (List.mem_cons.mp h).elim (fun e => by rw [e]; exact kX6_init_in) id)) rfl rfl rfl (x.2.2.2.2.1 _ (List.mem_cons_of_mem _ wm_1)) (x.2.2.2.2.1 _ (List.mem_cons_of_mem _ wm_13)) (x.2.2.2.2.1 _ (List.mem_cons_of_mem _ wm_14)) rfl hX6_init ⟨by decide, by decide⟩) (Nat.le_of_ble_eq_true rfl) (by decide) (fun U hW => zz.warm hW) ZZ.blind (fun w1 ho => ?_)
  obtain ⟨ad, f, had, hf, hp⟩ := wlY ho
  subst had
  refine jr_perm (w' := wl cA ad (sY f) clC) hp ?_
  refine jr_astore_n x dL_7 rfl (by decide) (lv' := [(1, .ref (ad 0 0)), (0, .ref b)]) rfl ?_
  refine jr_new (ci := 7) (C := RX7) (T := TX7) (N := 37) (fs := [.null, .null, .null, .int 0, .null, .null, .null, .null, .null, .null, .null, .null, .null, .null, .null, .int 0, .null, .int 0, .int 0, .null, .null, .null, .int 0, .null, .null, .int 0, .int 0, .null, .null, .null, .null, .int 0, .null, .null, .int 0, .null, .null]) x tyX7 dL_8 rfl (fun w h => List.mem_cons_of_mem _ (inX7 w h)) tyX7_ok (List.mem_cons_of_mem _ wm_482) (List.mem_cons_of_mem _ wm_483) (List.mem_cons_of_mem _ wm_9) dfX7 (by decide) (by decide) (fun a1 => ?_)
  refine jr_dup x dL_11 ?_
  refine jr_makeI (as := []) x mkX7_init dL_12 (cwI 0 x.2.2.2.2.1 (gT (fun w h => (List.mem_cons.mp h).elim (fun e => by rw [e]; exact kX7_init_in) id)) rfl rfl rfl (x.2.2.2.2.1 _ (List.mem_cons_of_mem _ wm_9)) (x.2.2.2.2.1 _ (List.mem_cons_of_mem _ wm_484)) (x.2.2.2.2.1 _ (List.mem_cons_of_mem _ wm_485)) rfl hX7_init ⟨by decide, by decide⟩) (Nat.le_of_ble_eq_true rfl) (by decide) (fun U hW => zz.warm hW) ZZ.blind (fun w2 ho2 => ?_)
  obtain ⟨ad2, had2, hp2⟩ := wlR ho2
  subst had2
  refine jr_perm (w' := wl cA ad (sY f) clC ++ wl cA ad2 s00 clR) (List.Perm.append_left _ hp2) ?_
  refine jr_astore_n x dL_15 rfl (by decide) (lv' := [(2, .ref (ad2 20 0)), (1, .ref (ad 0 0)), (0, .ref b)]) rfl ?_
  refine jr_iconst (v := 0) x dL_16 (by decide) ?_
  refine jr_istore_n x dL_17 rfl (by decide) (lv' := [(3, .int 0), (2, .ref (ad2 20 0)), (1, .ref (ad 0 0)), (0, .ref b)]) rfl ?_
  exact law_loop x hX hbl hbA hL (by decide) (fun w lv H locs ls hP hD hS hl => va_forget (fun q hq => hS.2.2 q hq) (W.widen (by decide) (by decide) (lw_ret hx hb hr hlocks dL_625))) 512 0 (sY f) s00 y00 [] rfl (y00_C hf) y00_R rfl ⟨y00_all, by decide, by decide⟩
