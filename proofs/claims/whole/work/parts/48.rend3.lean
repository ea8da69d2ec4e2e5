/-! The reference: an actor ends -/
theorem end_mails {post : mPo} {J : mK} (hJ : Cl tX7_end clR post J) {x r : Int32} {s : Nat} {c4 c5 c6 : Int32} {y : Yd} {ls es : List (Int32 × Int32)} {w : Nat → Int32}
    (fin : ∀ τ n, RRw τ (vM (vR y n) ((yM y).filter (fun m => !(m.1 == x)))) ls es → τ.1 22 0 = w → J τ 89 [(0, mR 20 0), (1, mI x), (2, mI r), (3, mI (nI s)), (4, mI c4), (5, mI c5), (6, mI c6), (7, mI (nI 0 - 1))] []) :
    ∀ (m : Nat) (pre suf : List (Int32 × Int32 × Int32)) (n : Nat) (τ : mS), pre.length = m → RRw τ (vM (vR y n) (pre ++ suf)) ls es → τ.1 22 0 = w → (yM y).filter (fun m => !(m.1 == x)) = pre.filter (fun m => !(m.1 == x)) ++ suf → J τ 61 [(0, mR 20 0), (1, mI x), (2, mI r), (3, mI (nI s)), (4, mI c4), (5, mI c5), (6, mI c6), (7, mI (nI m - 1))] [] := by
  intro m
  induction m with
  | zero =>
    intro pre suf n τ hm h ew hf
    have hp : pre = [] := List.eq_nil_of_length_eq_zero hm
    subst hp
    refine stp_j hJ 2 ⟨fun _ => ?_, fun h2 => absurd (by decide) h2⟩
    refine fin τ n ?_ ew
    rw [hf]
    exact h
  | succ k ih =>
    intro pre suf n τ hm h ew hf
    obtain ⟨p, a, hp⟩ : ∃ p a, pre = p ++ [a] := by
      rcases List.eq_nil_or_concat pre with hz | ⟨p, a, hz⟩
      · rw [hz] at hm
        simp at hm
      · exact ⟨p, a, by simpa using hz⟩
    subst hp
    have hpl : p.length = k := by simpa using hm
    have hx : (p ++ [a] ++ suf)[k]? = some a := by
      rw [← hpl]
      simp
    have hc : MlIs τ (p ++ [a] ++ suf) := h.2.2.2.2.2.1
    have h12 : (p ++ [a] ++ suf).length + ls.length + n = 24 := h.2.2.2.2.2.2.2.2.2.2.2
    have h24 := hc.2.1
    simp at h24
    obtain ⟨r1, r2, r3⟩ := hc.2.2 k a hx
    rw [nI_pred]
    refine stp_j hJ 2 ⟨fun h2 => absurd h2 (nI_pos (by omega)), fun _ => ?_⟩
    refine stp_j hJ 6 ⟨i20, i25 (by decide), k, ix_nI (by omega) (by decide), _, r1, fun h3 => ?_, fun h3 => ?_⟩
    · refine stp_j hJ 2 ⟨_, (Int32.sub_eq_add_neg _ _).symm, ?_⟩
      refine ih p (a :: suf) n τ hpl (by simpa using h) ew ?_
      rw [hf, List.filter_append, List.filter_cons_of_pos (p := fun c : Int32 × Int32 × Int32 => !(c.1 == x)) (a := a) (by simpa using h3)]
      simp
    · have h3 : a.1 = x := Decidable.not_not.mp h3
      refine stp_j hJ 3 ⟨trivial, ⟨i20, trivial⟩, _, r_takeMail hc (k := k) (by simp; omega), ?_⟩
      rintro o υ ⟨q, f1, f2⟩
      subst q
      rw [List.append_assoc, List.eraseIdx_append_of_length_le (by omega), hpl, Nat.sub_self] at f2
      have f2 : MlIs υ (p ++ suf) := f2
      have hr := h.ml f1 (n := n + 1) f2 (by simp at h12 ⊢; omega)
      refine stp_j hJ 2 ⟨_, (Int32.sub_eq_add_neg _ _).symm, ?_⟩
      refine ih p suf (n + 1) υ hpl hr.1 (hr.2.trans ew) ?_
      rw [hf, List.filter_append, List.filter_cons_of_neg (p := fun c : Int32 × Int32 × Int32 => !(c.1 == x)) (a := a) (by simp [h3])]
      simp
theorem psi_bury {y : Yd} (hn : (yA y).Nodup) {x : Int32} (hx : x ∈ yA y) : psi (yBury y x) + chN x (yF y 2) (yA (yBury y x)) + (if yF y 2 x ∈ yA (yBury y x) then 1 else 0) + 1 ≤ psi y := by
  have h1 := cC_bury hn hx (yF y 2)
  have h2 := List.length_erase_of_mem hx
  have h3 : 0 < (yA y).length := List.length_pos_of_mem hx
  have e1 : yA (yBury y x) = (yA y).erase x := rfl
  have e2 : yK (yBury y x) = yK y := rfl
  have e3 : yF (yBury y x) = yF y := rfl
  unfold psi chN
  rw [e1, e2, e3]
  omega
theorem R_end {ρ : mS} {y : Yd} {ls es ds : List (Int32 × Int32)} (h : RRw ρ y ls es) (q : Full y) (hL : (yL y).toInt < 2147483647) (hN : yN y < 2 ^ 31) (hov : OvI y) {x r : Int32} (he : EE y ((x, r) :: ds)) (hx : x ∈ yA y) (hB : es.length + psi y ≤ 200) : Meets clR yX7_end (kX7_end :: wT) rX7_end [mR 20 0, mI x, mI r] ρ (fun o τ => o = none ∧ ∃ ls' ex, RRw τ (ySettle y) ls' (es ++ ex) ∧ EE (ySettle y) (ds ++ ex) ∧ (es ++ ex).length + psi (ySettle y) ≤ es.length + psi y ∧ ∀ t, t < 8 → ¬ ρ.1 22 0 t = 0 → ¬ ρ.1 22 0 t = x → τ.1 22 0 t = ρ.1 22 0 t) := by
  refine Meets.of SX7_end rfl (by decide) rfl (Nat.le_of_ble_eq_true rfl) ?_
  intro J hJ
  have hnd := pw_nd q.1.1.1
  obtain ⟨heq, heb⟩ := he.bury hnd hx
  have ivb : InvY (yBury y x) := q.1.bury heq
  have srtb : Srt (yBury y x) := ivb.1.1
  have hids := q.1.2.2.2.2.2.2.1
  have eS : ySettle y = tl r x (yOrph x (yA (yBury y x)) (yExits x r (yA (yBury y x)) (yBury y x))) := by
    unfold ySettle
    rw [heq]
    show (if r = 0 then _ else _) = _
    unfold tl
    rfl
  have hpb := psi_bury hnd hx
  have hposb : ∀ i ∈ yA (yBury y x), 0 < i := fun i hi => (ivb.2.2.2.2.2.2.1 i hi).1
  have hlenb : (yA (yBury y x)).length < 8 := by
    have e1 : yA (yBury y x) = (yA y).erase x := rfl
    rw [e1, List.length_erase_of_mem hx]
    have := h.A8 q.1.1
    have := List.length_pos_of_mem hx
    omega
  refine stp_j hJ 3 ⟨trivial, ⟨i20, trivial⟩, _, r_find ρ x, ?_⟩
  rintro o τ ⟨w, rfl⟩
  have w := w.symm
  subst w
  rcases h.1.fd x with ⟨s, hs, e, hi, _, hp⟩ | ⟨e, hA⟩
  · rw [e]
    have hx0 : ¬ x = 0 := fun z => by rw [z] at hp; exact absurd hp (by decide)
    obtain ⟨a1, a2, a3, a4, _⟩ := h.sl hs hi hx0
    refine stp_j hJ 3 ⟨fun _ => ?_, fun h2 => absurd (nI_pos' (by omega)) h2⟩
    refine stp_j hJ 15 ⟨i20, i22 (by decide), s, ix_nI hs (by decide), _, a2, i20, i22 (by decide), s, ix_nI hs (by decide), _, a3, i20, i22 (by decide), s, ix_nI hs (by decide), _, a4, ?_⟩
    refine stp_j hJ 5 ⟨i20, i22 (by decide), s, ix_nI hs (by decide), ?_⟩
    have d1 := h.die hnd hs hi hx0
    refine stp_j hJ 3 ⟨trivial, ⟨i20, trivial⟩, _, R_leave d1 q.1.1.2.1 x, ?_⟩
    rintro o τ ⟨w, d2, d2w⟩
    subst w
    refine stp_j hJ 4 ⟨trivial, ⟨i20, trivial⟩, _, R_stopF d2 x true, ?_⟩
    rintro o υ ⟨w, d3, d3w⟩
    subst w
    have hwho : υ.1 22 0 = (sI ρ 22 0 s 0).1 22 0 := d3w.trans d2w
    have hkeep : ∀ t, t < 8 → ¬ ρ.1 22 0 t = 0 → ¬ ρ.1 22 0 t = x → ¬ (sI ρ 22 0 s 0).1 22 0 t = 0 ∧ (sI ρ 22 0 s 0).1 22 0 t = ρ.1 22 0 t := by
      intro t ht h0 hne
      have hts : ¬ t = s := fun z => hne (by rw [z]; exact hi)
      have : (sI ρ 22 0 s 0).1 22 0 t = ρ.1 22 0 t := by simp [u3, hts]
      exact ⟨by rw [this]; exact h0, this⟩
    have hml := d3.2.2.2.2.2.1
    refine stp_j hJ 5 ⟨i20, _, hml.1, _, rfl, ?_⟩
    refine end_mails hJ (y := vT (vQ (vA y ((yA y).erase x)) ((yQ y).erase x)) ((yT y).filter (fun t => !(t.1 == x && (true || t.2.2.2))))) (ls := ls) (es := es) (w := υ.1 22 0) ?_ (yM y).length (yM y) [] (yR y) υ rfl (by rw [List.append_nil]; exact d3) rfl (List.append_nil _).symm
    intro φ n d4 d4w
    have hn : n = yR y + (mbx y x).length := by
      have z1 := d4.2.2.2.2.2.2.2.2.2.2.2
      have z2 := h.2.2.2.2.2.2.2.2.2.2.2
      have z3 : ((yM y).filter (fun a => !(a.1 == x))).length + ((yM y).filter (fun a => a.1 == x)).length = (yM y).length := flt_split (fun a : Int32 × Int32 × Int32 => a.1 == x) (yM y)
      have z1 : ((yM y).filter (fun m => !(m.1 == x))).length + ls.length + n = 24 := z1
      show n = yR y + ((yM y).filter (fun m => m.1 == x)).length
      omega
    subst hn
    have d5 : RRw φ (yBury y x) ls es := by
      have eT : (fun t : Int32 × Int × Int32 × Bool => !(t.1 == x && (true || t.2.2.2))) = (fun t => !(t.1 == x)) := by
        funext t
        simp
      rw [eT] at d4
      exact d4.vE ((yE y).tail)
    have ew : φ.1 22 0 = (sI ρ 22 0 s 0).1 22 0 := d4w.trans hwho
    have hkx := exits_inv x r (yA (yBury y x)) (yBury y x) ivb q.2.1 (fun z hz => hz)
    obtain ⟨iv1, ku1, sub1, eA1, eL1, eN1, eH1, eC1, eF1, _, _⟩ := hkx
    have hoi := orph_inv x (yA (yBury y x)) (yExits x r (yA (yBury y x)) (yBury y x)) iv1 (fun z hz => by rw [eA1]; exact hz)
    obtain ⟨iv2, eK2, eA2, eL2, eN2, eH2, eC2, eF2⟩ := hoi
    have eLb : yL (yBury y x) = yL y := rfl
    have eNb : yN (yBury y x) = yN y := rfl
    have eFb : yF (yBury y x) = yF y := rfl
    have eKb : yK (yBury y x) = yK y := rfl
    refine stp_j hJ 5 ⟨trivial, ⟨i20, trivial⟩, _, R_nextAfter d5 (id := 0) (by decide) x true, ?_⟩
    rintro o τ2 ⟨w, b, rfl, hb⟩
    have w := w.symm
    subst w
    rw [ew] at hb
    refine stp_j hJ 1 ?_
    refine end_exit hJ (ds0 := ds) (es0 := es) (A := yA (yBury y x)) (w := (sI ρ 22 0 s 0).1 22 0) (Y := yExits x r (yA (yBury y x)) (yBury y x)) (L := yL y) (B := es.length + (yK y).length) srtb (by unfold psi at hB; omega) (fun i hi => (ivb.2.2.2.2.2.2.1 i hi).2) ?_ _ 0 φ (yBury y x) ls [] b (by decide) (Nat.le_refl _) (by rw [List.append_nil]; exact d5) (by rw [List.append_nil]; exact heb) ivb q.2.1 rfl rfl ew (by rw [List.append_nil, eKb]; exact Nat.le_refl _) (by rw [gt_all hposb]) hb
    intro τ3 ls3 ex3 g1 g2 g3 g4
    refine stp_j hJ 5 ⟨trivial, ⟨i20, trivial⟩, _, R_nextAfter g1 (id := 0) (by decide) x false, ?_⟩
    rintro o τ4 ⟨w, b2, rfl, hb2⟩
    have w := w.symm
    subst w
    rw [g4] at hb2
    have hF2 : yF (yExits x r (yA (yBury y x)) (yBury y x)) 2 = yF y 2 := by
      funext z
      rw [eF1 2 (by decide) z, eFb]
    refine stp_j hJ 1 ?_
    have hpsi1 : psi (yExits x r (yA (yBury y x)) (yBury y x)) = (yK (yExits x r (yA (yBury y x)) (yBury y x))).length + (yA (yBury y x)).length + cC (yA (yBury y x)) (yF y 2) := by
      unfold psi
      rw [eA1, hF2]
    have hpsib : psi (yBury y x) = (yK y).length + (yA (yBury y x)).length + cC (yA (yBury y x)) (yF y 2) := rfl
    refine end_orph hJ (ls := ls3) (ds0 := ds ++ ex3) (es0 := es ++ ex3) (A := yA (yBury y x)) (F := yF y 2) (w := (sI ρ 22 0 s 0).1 22 0) (Y := yOrph x (yA (yBury y x)) (yExits x r (yA (yBury y x)) (yBury y x))) (L := yL y) (B := (es ++ ex3).length + chN x (yF y 2) (yA (yBury y x))) srtb (by omega) (fun i hi => (ivb.2.2.2.2.2.2.1 i hi).2) ?_ _ 0 τ3 (yExits x r (yA (yBury y x)) (yBury y x)) [] b2 (by decide) (Nat.le_refl _) (by rw [List.append_nil]; exact g1) (by rw [List.append_nil]; exact g2) eA1 hF2 (eL1.trans eLb) g4 (by rw [List.append_nil, gt_all hposb]; exact Nat.le_refl _) (by rw [gt_all hposb]) hb2
    intro τ5 ex5 m1 m2 m3 m4
    have hF3 : ∀ n, ¬ n = 4 → ∀ z, yF (yOrph x (yA (yBury y x)) (yExits x r (yA (yBury y x)) (yBury y x))) n z = yF y n z := fun n hn z => by
      rw [eF2, eF1 n hn z, eFb]
    have hpsi2 : psi (yOrph x (yA (yBury y x)) (yExits x r (yA (yBury y x)) (yBury y x))) = psi (yExits x r (yA (yBury y x)) (yBury y x)) := by
      unfold psi
      rw [eA2, eK2, eF2]
    have ht := end_tell hJ m1 iv2 (by rw [eL2, eL1, eLb]; exact q.2.2.2.2) (by rw [eL2, eL1, eLb]; exact hL) (by rw [eN2, eN1, eNb]; exact hN) (fun j => by rw [hF3 2 (by decide) j, eL2, eL1, eLb]; exact hov j) m2 (by rw [eA2, eA1]; exact hlenb) (by omega) x r s (mI (idI none)) (by
      intro τ6 ex6 n1 n2 n3 n4
      rw [← eS] at n1 n2 n3
      refine ⟨rfl, ls3, ex3 ++ ex5 ++ ex6, ?_, ?_, ?_, ?_⟩
      · simpa [List.append_assoc] using n1
      · simpa [List.append_assoc] using n2
      · rw [hpsi2, hF3 2 (by decide) x, eA2, eA1] at n3
        have e9 : (es ++ (ex3 ++ ex5 ++ ex6)).length = (es ++ ex3 ++ ex5 ++ ex6).length := by simp [List.append_assoc]
        rw [e9]
        omega
      · intro t ht h0 hne
        have hk := hkeep t ht h0 hne
        rw [n4 t ht (by rw [m4]; exact hk.1), m4]
        exact hk.2)
    rw [hF3 0 (by decide) x, hF3 1 (by decide) x, hF3 2 (by decide) x] at ht
    exact ht
  · exact absurd hx hA
