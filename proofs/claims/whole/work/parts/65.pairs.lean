/-! Both sides, call by call: one answer, one yard after it -/
def OkC (v : Int32) (y : Yd) : mPo := fun r τ => r = some (mI v) ∧ RC τ y
def OkR (v : Int32) (y : Yd) : mPo := fun r τ => r = some (mI v) ∧ (∃ ls, RRw τ y ls []) ∧ yE y = []
/-- what holds after j calls -/
def LI (y : Yd) (j : Nat) : Prop := AllI y ∧ (yL y).toInt ≤ 41100 * j ∧ yN y ≤ j
theorem LI.nx {y : Yd} {j : Nat} (h : LI y j) : LI y (j + 1) := ⟨h.1, by have := h.2.1; omega, by have := h.2.2; omega⟩
theorem pr_room {σ ρ : mS} {y : Yd} {ls : List (Int32 × Int32)} {j : Nat} (hC : RC σ y) (hR : RRw ρ y ls []) (hE : yE y = []) (a : LI y j) : ∃ v y', Meets clC yX6_room (kX6_room :: wT) rX6_room [mR 0 0] σ (OkC v y') ∧ Meets clR yX7_room (kX7_room :: wT) rX7_room [mR 20 0] ρ (OkR v y') ∧ LI y' (j + 1) :=
  ⟨_, y, (p_room hC ).mono (fun r τ h => ⟨h.2, by rw [h.1]; exact hC⟩), (q_room hR ).mono (fun r τ h => ⟨h.2, ⟨ls, by rw [h.1]; exact hR⟩, hE⟩), a.nx⟩
theorem pr_lost {σ ρ : mS} {y : Yd} {ls : List (Int32 × Int32)} {j : Nat} (hC : RC σ y) (hR : RRw ρ y ls []) (hE : yE y = []) (a : LI y j) : ∃ v y', Meets clC yX6_lost (kX6_lost :: wT) rX6_lost [mR 0 0] σ (OkC v y') ∧ Meets clR yX7_lost (kX7_lost :: wT) rX7_lost [mR 20 0] ρ (OkR v y') ∧ LI y' (j + 1) :=
  ⟨_, y, (p_lost hC ).mono (fun r τ h => ⟨h.2, by rw [h.1]; exact hC⟩), (q_lost hR ).mono (fun r τ h => ⟨h.2, ⟨ls, by rw [h.1]; exact hR⟩, hE⟩), a.nx⟩
theorem pr_timers {σ ρ : mS} {y : Yd} {ls : List (Int32 × Int32)} {j : Nat} (hC : RC σ y) (hR : RRw ρ y ls []) (hE : yE y = []) (a : LI y j) : ∃ v y', Meets clC yX6_timers (kX6_timers :: wT) rX6_timers [mR 0 0] σ (OkC v y') ∧ Meets clR yX7_timers (kX7_timers :: wT) rX7_timers [mR 20 0] ρ (OkR v y') ∧ LI y' (j + 1) :=
  ⟨_, y, (p_timers hC ).mono (fun r τ h => ⟨h.2, by rw [h.1]; exact hC⟩), (q_timers hR ).mono (fun r τ h => ⟨h.2, ⟨ls, by rw [h.1]; exact hR⟩, hE⟩), a.nx⟩
theorem pr_status {σ ρ : mS} {y : Yd} {ls : List (Int32 × Int32)} {j : Nat} (hC : RC σ y) (hR : RRw ρ y ls []) (hE : yE y = []) (a : LI y j) (d : Int32) : ∃ v y', Meets clC yX6_status (kX6_status :: wT) rX6_status [mR 0 0, mI d] σ (OkC v y') ∧ Meets clR yX7_status (kX7_status :: wT) rX7_status [mR 20 0, mI d] ρ (OkR v y') ∧ LI y' (j + 1) :=
  ⟨_, y, (p_status hC d).mono (fun r τ h => ⟨h.2, by rw [h.1]; exact hC⟩), (q_status hR d).mono (fun r τ h => ⟨h.2, ⟨ls, by rw [h.1]; exact hR⟩, hE⟩), a.nx⟩
theorem pr_register {σ ρ : mS} {y : Yd} {ls : List (Int32 × Int32)} {j : Nat} (hC : RC σ y) (hR : RRw ρ y ls []) (hE : yE y = []) (a : LI y j) (d e : Int32) : ∃ v y', Meets clC yX6_register (kX6_register :: wT) rX6_register [mR 0 0, mI d, mI e] σ (OkC v y') ∧ Meets clR yX7_register (kX7_register :: wT) rX7_register [mR 20 0, mI d, mI e] ρ (OkR v y') ∧ LI y' (j + 1) :=
  ⟨_, y, (p_register hC d e).mono (fun r τ h => ⟨h.2, by rw [h.1]; exact hC⟩), (q_register hR d e).mono (fun r τ h => ⟨h.2, ⟨ls, by rw [h.1]; exact hR⟩, hE⟩), a.nx⟩
theorem pr_place {σ ρ : mS} {y : Yd} {ls : List (Int32 × Int32)} {j : Nat} (hC : RC σ y) (hR : RRw ρ y ls []) (hE : yE y = []) (a : LI y j) (d : Int32) : ∃ v y', Meets clC yX6_place (kX6_place :: wT) rX6_place [mR 0 0, mI d] σ (OkC v y') ∧ Meets clR yX7_place (kX7_place :: wT) rX7_place [mR 20 0, mI d] ρ (OkR v y') ∧ LI y' (j + 1) :=
  ⟨_, y, (p_place hC d).mono (fun r τ h => ⟨h.2, by rw [h.1]; exact hC⟩), (q_place hR d).mono (fun r τ h => ⟨h.2, ⟨ls, by rw [h.1]; exact hR⟩, hE⟩), a.nx⟩
theorem pr_mail {σ ρ : mS} {y : Yd} {ls : List (Int32 × Int32)} {j : Nat} (hC : RC σ y) (hR : RRw ρ y ls []) (hE : yE y = []) (a : LI y j) (d : Int32) : ∃ v y', Meets clC yX6_mail (kX6_mail :: wT) rX6_mail [mR 0 0, mI d] σ (OkC v y') ∧ Meets clR yX7_mail (kX7_mail :: wT) rX7_mail [mR 20 0, mI d] ρ (OkR v y') ∧ LI y' (j + 1) :=
  ⟨_, y, (p_mail hC d).mono (fun r τ h => ⟨h.2, by rw [h.1]; exact hC⟩), (q_mail hR d).mono (fun r τ h => ⟨h.2, ⟨ls, by rw [h.1]; exact hR⟩, hE⟩), a.nx⟩
theorem pr_message {σ ρ : mS} {y : Yd} {ls : List (Int32 × Int32)} {j : Nat} (hC : RC σ y) (hR : RRw ρ y ls []) (hE : yE y = []) (a : LI y j) (d e : Int32) : ∃ v y', Meets clC yX6_message (kX6_message :: wT) rX6_message [mR 0 0, mI d, mI e] σ (OkC v y') ∧ Meets clR yX7_message (kX7_message :: wT) rX7_message [mR 20 0, mI d, mI e] ρ (OkR v y') ∧ LI y' (j + 1) :=
  ⟨_, y, (p_message hC d e).mono (fun r τ h => ⟨h.2, by rw [h.1]; exact hC⟩), (q_message hR d e).mono (fun r τ h => ⟨h.2, ⟨ls, by rw [h.1]; exact hR⟩, hE⟩), a.nx⟩
theorem pr_supervisor {σ ρ : mS} {y : Yd} {ls : List (Int32 × Int32)} {j : Nat} (hC : RC σ y) (hR : RRw ρ y ls []) (hE : yE y = []) (a : LI y j) (d : Int32) : ∃ v y', Meets clC yX6_supervisor (kX6_supervisor :: wT) rX6_supervisor [mR 0 0, mI d] σ (OkC v y') ∧ Meets clR yX7_supervisor (kX7_supervisor :: wT) rX7_supervisor [mR 20 0, mI d] ρ (OkR v y') ∧ LI y' (j + 1) :=
  ⟨_, y, (p_supervisor hC d).mono (fun r τ h => ⟨h.2, by rw [h.1]; exact hC⟩), (q_supervisor hR d).mono (fun r τ h => ⟨h.2, ⟨ls, by rw [h.1]; exact hR⟩, hE⟩), a.nx⟩
theorem pr_restarts {σ ρ : mS} {y : Yd} {ls : List (Int32 × Int32)} {j : Nat} (hC : RC σ y) (hR : RRw ρ y ls []) (hE : yE y = []) (a : LI y j) (d : Int32) : ∃ v y', Meets clC yX6_restarts (kX6_restarts :: wT) rX6_restarts [mR 0 0, mI d] σ (OkC v y') ∧ Meets clR yX7_restarts (kX7_restarts :: wT) rX7_restarts [mR 20 0, mI d] ρ (OkR v y') ∧ LI y' (j + 1) :=
  ⟨_, y, (p_restarts hC d).mono (fun r τ h => ⟨h.2, by rw [h.1]; exact hC⟩), (q_restarts hR d).mono (fun r τ h => ⟨h.2, ⟨ls, by rw [h.1]; exact hR⟩, hE⟩), a.nx⟩
theorem pr_queue {σ ρ : mS} {y : Yd} {ls : List (Int32 × Int32)} {j : Nat} (hC : RC σ y) (hR : RRw ρ y ls []) (hE : yE y = []) (a : LI y j) (d : Int32) : ∃ v y', Meets clC yX6_queue (kX6_queue :: wT) rX6_queue [mR 0 0, mI d] σ (OkC v y') ∧ Meets clR yX7_queue (kX7_queue :: wT) rX7_queue [mR 20 0, mI d] ρ (OkR v y') ∧ LI y' (j + 1) :=
  ⟨_, y, (p_queue hC d).mono (fun r τ h => ⟨h.2, by rw [h.1]; exact hC⟩), (q_queue hR d).mono (fun r τ h => ⟨h.2, ⟨ls, by rw [h.1]; exact hR⟩, hE⟩), a.nx⟩
theorem pr_output {σ ρ : mS} {y : Yd} {ls : List (Int32 × Int32)} {j : Nat} (hC : RC σ y) (hR : RRw ρ y ls []) (hE : yE y = []) (a : LI y j) (d : Int32) : ∃ v y', Meets clC yX6_output (kX6_output :: wT) rX6_output [mR 0 0, mI d] σ (OkC v y') ∧ Meets clR yX7_output (kX7_output :: wT) rX7_output [mR 20 0, mI d] ρ (OkR v y') ∧ LI y' (j + 1) :=
  ⟨_, y, (p_output hC d).mono (fun r τ h => ⟨h.2, by rw [h.1]; exact hC⟩), (q_output hR d).mono (fun r τ h => ⟨h.2, ⟨ls, by rw [h.1]; exact hR⟩, hE⟩), a.nx⟩
theorem pr_author {σ ρ : mS} {y : Yd} {ls : List (Int32 × Int32)} {j : Nat} (hC : RC σ y) (hR : RRw ρ y ls []) (hE : yE y = []) (a : LI y j) (d : Int32) : ∃ v y', Meets clC yX6_author (kX6_author :: wT) rX6_author [mR 0 0, mI d] σ (OkC v y') ∧ Meets clR yX7_author (kX7_author :: wT) rX7_author [mR 20 0, mI d] ρ (OkR v y') ∧ LI y' (j + 1) :=
  ⟨_, y, (p_author hC d).mono (fun r τ h => ⟨h.2, by rw [h.1]; exact hC⟩), (q_author hR d).mono (fun r τ h => ⟨h.2, ⟨ls, by rw [h.1]; exact hR⟩, hE⟩), a.nx⟩
theorem pr_linked {σ ρ : mS} {y : Yd} {ls : List (Int32 × Int32)} {j : Nat} (hC : RC σ y) (hR : RRw ρ y ls []) (hE : yE y = []) (a : LI y j) (d e : Int32) : ∃ v y', Meets clC yX6_linked (kX6_linked :: wT) rX6_linked [mR 0 0, mI d, mI e] σ (OkC v y') ∧ Meets clR yX7_linked (kX7_linked :: wT) rX7_linked [mR 20 0, mI d, mI e] ρ (OkR v y') ∧ LI y' (j + 1) := by
  by_cases hP : aLinked y d e
  · exact ⟨1, y, (p_linked hC d e).mono (fun r τ h => ⟨h.2.elim (fun z => z.1) (fun z => absurd hP z.2), by rw [h.1]; exact hC⟩), (q_linked hR d e).mono (fun r τ h => ⟨h.2.elim (fun z => z.1) (fun z => absurd hP z.2), ⟨ls, by rw [h.1]; exact hR⟩, hE⟩), a.nx⟩
  · exact ⟨0, y, (p_linked hC d e).mono (fun r τ h => ⟨h.2.elim (fun z => absurd z.2 hP) (fun z => z.1), by rw [h.1]; exact hC⟩), (q_linked hR d e).mono (fun r τ h => ⟨h.2.elim (fun z => absurd z.2 hP) (fun z => z.1), ⟨ls, by rw [h.1]; exact hR⟩, hE⟩), a.nx⟩
theorem pr_load {σ ρ : mS} {y : Yd} {ls : List (Int32 × Int32)} {j : Nat} (hC : RC σ y) (hR : RRw ρ y ls []) (hE : yE y = []) (a : LI y j) (c o d e : Int32) : ∃ v y', Meets clC yX6_load (kX6_load :: wT) rX6_load [mR 0 0, mI c, mI o, mI d, mI e] σ (OkC v y') ∧ Meets clR yX7_load (kX7_load :: wT) rX7_load [mR 20 0, mI c, mI o, mI d, mI e] ρ (OkR v y') ∧ LI y' (j + 1) := by
  by_cases hP : 0 ≤ c ∧ c < 48 ∧ insOk o d e
  · refine ⟨1, yLoad y c o d e, (p_load hC c o d e).mono (fun r τ h => ⟨h.1.elim (fun z => z.1) (fun z => absurd hP z.2), h.2.1 hP⟩), (q_load hR c o d e).mono (fun r τ h => ⟨h.1.elim (fun z => z.1) (fun z => absurd hP z.2), ⟨ls, h.2.1 hP⟩, hE⟩), ?_⟩
    exact ⟨a.1.load hP, a.nx.2.1, a.nx.2.2⟩
  · exact ⟨0, y, (p_load hC c o d e).mono (fun r τ h => ⟨h.1.elim (fun z => absurd z.2 hP) (fun z => z.1), h.2.2 hP⟩), (q_load hR c o d e).mono (fun r τ h => ⟨h.1.elim (fun z => absurd z.2 hP) (fun z => z.1), ⟨ls, h.2.2 hP⟩, hE⟩), a.nx⟩
theorem pr_spawn {σ ρ : mS} {y : Yd} {ls : List (Int32 × Int32)} {j : Nat} (hC : RC σ y) (hR : RRw ρ y ls []) (hE : yE y = []) (a : LI y j) (hj : j ≤ 600) (d e : Int32) : ∃ v y', Meets clC yX6_spawn (kX6_spawn :: wT) rX6_spawn [mR 0 0, mI d, mI e] σ (OkC v y') ∧ Meets clR yX7_spawn (kX7_spawn :: wT) rX7_spawn [mR 20 0, mI d, mI e] ρ (OkR v y') ∧ LI y' (j + 1) := by
  have hL : (yL y).toInt < 2147483647 := by have := a.2.1; omega
  obtain ⟨g1, g2, g3⟩ := a.1.spawn hL d e
  have hE2 : yE (ySpawnP y d e).1 = [] := by
    unfold ySpawnP
    split
    · split
      · exact (yE_new _ _ _ _).trans hE
      · exact hE
    · exact hE
  exact ⟨_, (ySpawnP y d e).1, p_spawn hC a.1.1 hL d e, (q_spawn hR a.1.1 hL d e).mono (fun r τ h => ⟨h.1, ⟨ls, h.2⟩, hE2⟩), g1, by have := a.2.1; omega, by rw [g2]; have := a.2.2; omega⟩
theorem pr_inject {σ ρ : mS} {y : Yd} {ls : List (Int32 × Int32)} {j : Nat} (hC : RC σ y) (hR : RRw ρ y ls []) (hE : yE y = []) (a : LI y j) (d e : Int32) : ∃ v y', Meets clC yX6_inject (kX6_inject :: wT) rX6_inject [mR 0 0, mI d, mI e] σ (OkC v y') ∧ Meets clR yX7_inject (kX7_inject :: wT) rX7_inject [mR 20 0, mI d, mI e] ρ (OkR v y') ∧ LI y' (j + 1) := by
  obtain ⟨g1, g2, g3⟩ := a.1.inject d e
  have hE2 : yE (yInject y d e).1 = [] := by
    unfold yInject
    split
    · split
      · exact hE
      · exact (yE_del _ _ _ _).trans hE
    · exact hE
  exact ⟨_, (yInject y d e).1, p_inject hC a.1.1 d e, (q_inject hR a.1.1 d e).mono (fun r τ h => ⟨h.1, ⟨ls, h.2⟩, hE2⟩), g1, by rw [g3]; have := a.2.1; omega, by rw [g2]; have := a.2.2; omega⟩
theorem pr_step {σ ρ : mS} {y : Yd} {ls : List (Int32 × Int32)} {j : Nat} (hC : RC σ y) (hR : RRw ρ y ls []) (hE : yE y = []) (a : LI y j) (hj : j ≤ 600) : ∃ v y', Meets clC yX6_step (kX6_step :: wT) rX6_step [mR 0 0] σ (OkC v y') ∧ Meets clR yX7_step (kX7_step :: wT) rX7_step [mR 20 0] ρ (OkR v y') ∧ LI y' (j + 1) := by
  have hL : (yL y).toInt + 1002 < 2147483647 := by have := a.2.1; omega
  have hN : yN y < 2 ^ 31 := by have := a.2.2; omega
  obtain ⟨g1, g2, g3⟩ := a.1.step hL
  exact ⟨_, (yStep y).1, p_step hC a.1.1 a.1.2.1 hL hN, (R_step hR a.1.1 a.1.2.1 hL hN a.1.2.2.2.2 a.1.2.2.1 hE).mono (fun r τ h => ⟨h.1, by obtain ⟨_, ls', k, z⟩ := h; exact ⟨⟨ls', k⟩, z⟩⟩), g1, by have := a.2.1; omega, by rw [g2]; have := a.2.2; omega⟩
theorem pr_run {σ ρ : mS} {y : Yd} {ls : List (Int32 × Int32)} {j : Nat} (hC : RC σ y) (hR : RRw ρ y ls []) (hE : yE y = []) (a : LI y j) (hj : j ≤ 600) (d : Int32) : ∃ v y', Meets clC yX6_run (kX6_run :: wT) rX6_run [mR 0 0, mI d] σ (OkC v y') ∧ Meets clR yX7_run (kX7_run :: wT) rX7_run [mR 20 0, mI d] ρ (OkR v y') ∧ LI y' (j + 1) := by
  have hL : (yL y).toInt + 41100 < 2147483647 := by have := a.2.1; omega
  have hN : yN y < 2 ^ 31 := by have := a.2.2; omega
  refine ⟨_, (if d < 0 ∨ 40 < d then (y, -1) else yRun d.toNatClampNeg y 0).1, p_run hC a.1.1 a.1.2.1 hL hN d, (q_run hR a.1 hL hN hE d).mono (fun r τ h => ⟨h.1, by obtain ⟨_, ls', k, z⟩ := h; exact ⟨⟨ls', k⟩, z⟩⟩), ?_⟩
  by_cases hd : d < 0 ∨ 40 < d
  · rw [if_pos hd]
    exact a.nx
  · rw [if_neg hd]
    obtain ⟨N, hN31, rfl⟩ := nI_of (fun z => hd (Or.inl z))
    have hN40 : N ≤ 40 := Nat.not_lt.mp (fun z => hd (Or.inr ((nI_ltI (a := 40) (b := N) (by decide) hN31).mpr z)))
    rw [nI_clamp hN31]
    obtain ⟨r1, r2, r3⟩ := AllI.run N 0 a.1 (by omega)
    exact ⟨r1, by have := a.2.1; omega, by rw [r2]; have := a.2.2; omega⟩
theorem pr_tick {σ ρ : mS} {y : Yd} {ls : List (Int32 × Int32)} {j : Nat} (hC : RC σ y) (hR : RRw ρ y ls []) (hE : yE y = []) (a : LI y j) (hj : j ≤ 600) : ∃ v y', Meets clC yX6_tick (kX6_tick :: wT) rX6_tick [mR 0 0] σ (OkC v y') ∧ Meets clR yX7_tick (kX7_tick :: wT) rX7_tick [mR 20 0] ρ (OkR v y') ∧ LI y' (j + 1) := by
  have hN : yN y + 1 < 2 ^ 31 := by have := a.2.2; omega
  have h10 := hR.2.2.2.2.2.2.2.2.1.2.1
  rw [List.length_map] at h10
  obtain ⟨t1, t2, t3, t4⟩ := AllW.ticks 10 0 a.1.now h10
  exact ⟨_, (yTicks 10 (vN y (yN y + 1)) 0).1, p_tick hC a.1.1 hN, (q_tick hR a.1 hN).mono (fun r τ h => ⟨h.1, ⟨ls, h.2⟩, t4.trans hE⟩), t1, by rw [t3]; have := a.2.1; show (yL y).toInt ≤ _; omega, by rw [t2]; have := a.2.2; show yN y + 1 ≤ _; omega⟩
