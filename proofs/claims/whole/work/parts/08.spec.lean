/-! The spec: what a yard is, whoever keeps it. Getters yF .., setters vF ..: F numbers of an actor (0 entry, 1 argument, 2 overseer, 3 cell, 4 done, 5 begun anew, 8.. registers), B traps 0, waits 1, H the last three times, M all messages (to, from, value), K links (pairs), A alive, Q queue, E endings (id, reason), T timers (owner, end, value, limit), O outputs (value, author), C code, N now, R free cells, X lost, L last id -/
abbrev Yd : Type := (Nat → Int32 → Int32) × (Nat → Int32 → Bool) × (Int32 → Int × Int × Int) × (List (Int32 × Int32 × Int32)) × (List (Int32 × Int32)) × List Int32 × List Int32 × (List (Int32 × Int32)) × (List (Int32 × Int × Int32 × Bool)) × (List (Int32 × Int32)) × (Nat → Nat → Int32) × Nat × Nat × Int32 × Int32
def yF (y : Yd) : Nat → Int32 → Int32 := y.1
def yB (y : Yd) : Nat → Int32 → Bool := y.2.1
def yH (y : Yd) : Int32 → Int × Int × Int := y.2.2.1
def yM (y : Yd) : List (Int32 × Int32 × Int32) := y.2.2.2.1
def yK (y : Yd) : List (Int32 × Int32) := y.2.2.2.2.1
def yA (y : Yd) : List Int32 := y.2.2.2.2.2.1
def yQ (y : Yd) : List Int32 := y.2.2.2.2.2.2.1
def yE (y : Yd) : List (Int32 × Int32) := y.2.2.2.2.2.2.2.1
def yT (y : Yd) : List (Int32 × Int × Int32 × Bool) := y.2.2.2.2.2.2.2.2.1
def yO (y : Yd) : List (Int32 × Int32) := y.2.2.2.2.2.2.2.2.2.1
def yC (y : Yd) : Nat → Nat → Int32 := y.2.2.2.2.2.2.2.2.2.2.1
def yN (y : Yd) : Nat := y.2.2.2.2.2.2.2.2.2.2.2.1
def yR (y : Yd) : Nat := y.2.2.2.2.2.2.2.2.2.2.2.2.1
def yX (y : Yd) : Int32 := y.2.2.2.2.2.2.2.2.2.2.2.2.2.1
def yL (y : Yd) : Int32 := y.2.2.2.2.2.2.2.2.2.2.2.2.2.2
def vF (y : Yd) (v : Nat → Int32 → Int32) : Yd := (v, y.2.1, y.2.2.1, y.2.2.2.1, y.2.2.2.2.1, y.2.2.2.2.2.1, y.2.2.2.2.2.2.1, y.2.2.2.2.2.2.2.1, y.2.2.2.2.2.2.2.2.1, y.2.2.2.2.2.2.2.2.2.1, y.2.2.2.2.2.2.2.2.2.2.1, y.2.2.2.2.2.2.2.2.2.2.2.1, y.2.2.2.2.2.2.2.2.2.2.2.2.1, y.2.2.2.2.2.2.2.2.2.2.2.2.2.1, y.2.2.2.2.2.2.2.2.2.2.2.2.2.2)
def vB (y : Yd) (v : Nat → Int32 → Bool) : Yd := (y.1, v, y.2.2.1, y.2.2.2.1, y.2.2.2.2.1, y.2.2.2.2.2.1, y.2.2.2.2.2.2.1, y.2.2.2.2.2.2.2.1, y.2.2.2.2.2.2.2.2.1, y.2.2.2.2.2.2.2.2.2.1, y.2.2.2.2.2.2.2.2.2.2.1, y.2.2.2.2.2.2.2.2.2.2.2.1, y.2.2.2.2.2.2.2.2.2.2.2.2.1, y.2.2.2.2.2.2.2.2.2.2.2.2.2.1, y.2.2.2.2.2.2.2.2.2.2.2.2.2.2)
def vH (y : Yd) (v : Int32 → Int × Int × Int) : Yd := (y.1, y.2.1, v, y.2.2.2.1, y.2.2.2.2.1, y.2.2.2.2.2.1, y.2.2.2.2.2.2.1, y.2.2.2.2.2.2.2.1, y.2.2.2.2.2.2.2.2.1, y.2.2.2.2.2.2.2.2.2.1, y.2.2.2.2.2.2.2.2.2.2.1, y.2.2.2.2.2.2.2.2.2.2.2.1, y.2.2.2.2.2.2.2.2.2.2.2.2.1, y.2.2.2.2.2.2.2.2.2.2.2.2.2.1, y.2.2.2.2.2.2.2.2.2.2.2.2.2.2)
def vM (y : Yd) (v : List (Int32 × Int32 × Int32)) : Yd := (y.1, y.2.1, y.2.2.1, v, y.2.2.2.2.1, y.2.2.2.2.2.1, y.2.2.2.2.2.2.1, y.2.2.2.2.2.2.2.1, y.2.2.2.2.2.2.2.2.1, y.2.2.2.2.2.2.2.2.2.1, y.2.2.2.2.2.2.2.2.2.2.1, y.2.2.2.2.2.2.2.2.2.2.2.1, y.2.2.2.2.2.2.2.2.2.2.2.2.1, y.2.2.2.2.2.2.2.2.2.2.2.2.2.1, y.2.2.2.2.2.2.2.2.2.2.2.2.2.2)
def vK (y : Yd) (v : List (Int32 × Int32)) : Yd := (y.1, y.2.1, y.2.2.1, y.2.2.2.1, v, y.2.2.2.2.2.1, y.2.2.2.2.2.2.1, y.2.2.2.2.2.2.2.1, y.2.2.2.2.2.2.2.2.1, y.2.2.2.2.2.2.2.2.2.1, y.2.2.2.2.2.2.2.2.2.2.1, y.2.2.2.2.2.2.2.2.2.2.2.1, y.2.2.2.2.2.2.2.2.2.2.2.2.1, y.2.2.2.2.2.2.2.2.2.2.2.2.2.1, y.2.2.2.2.2.2.2.2.2.2.2.2.2.2)
def vA (y : Yd) (v : List Int32) : Yd := (y.1, y.2.1, y.2.2.1, y.2.2.2.1, y.2.2.2.2.1, v, y.2.2.2.2.2.2.1, y.2.2.2.2.2.2.2.1, y.2.2.2.2.2.2.2.2.1, y.2.2.2.2.2.2.2.2.2.1, y.2.2.2.2.2.2.2.2.2.2.1, y.2.2.2.2.2.2.2.2.2.2.2.1, y.2.2.2.2.2.2.2.2.2.2.2.2.1, y.2.2.2.2.2.2.2.2.2.2.2.2.2.1, y.2.2.2.2.2.2.2.2.2.2.2.2.2.2)
def vQ (y : Yd) (v : List Int32) : Yd := (y.1, y.2.1, y.2.2.1, y.2.2.2.1, y.2.2.2.2.1, y.2.2.2.2.2.1, v, y.2.2.2.2.2.2.2.1, y.2.2.2.2.2.2.2.2.1, y.2.2.2.2.2.2.2.2.2.1, y.2.2.2.2.2.2.2.2.2.2.1, y.2.2.2.2.2.2.2.2.2.2.2.1, y.2.2.2.2.2.2.2.2.2.2.2.2.1, y.2.2.2.2.2.2.2.2.2.2.2.2.2.1, y.2.2.2.2.2.2.2.2.2.2.2.2.2.2)
def vE (y : Yd) (v : List (Int32 × Int32)) : Yd := (y.1, y.2.1, y.2.2.1, y.2.2.2.1, y.2.2.2.2.1, y.2.2.2.2.2.1, y.2.2.2.2.2.2.1, v, y.2.2.2.2.2.2.2.2.1, y.2.2.2.2.2.2.2.2.2.1, y.2.2.2.2.2.2.2.2.2.2.1, y.2.2.2.2.2.2.2.2.2.2.2.1, y.2.2.2.2.2.2.2.2.2.2.2.2.1, y.2.2.2.2.2.2.2.2.2.2.2.2.2.1, y.2.2.2.2.2.2.2.2.2.2.2.2.2.2)
def vT (y : Yd) (v : List (Int32 × Int × Int32 × Bool)) : Yd := (y.1, y.2.1, y.2.2.1, y.2.2.2.1, y.2.2.2.2.1, y.2.2.2.2.2.1, y.2.2.2.2.2.2.1, y.2.2.2.2.2.2.2.1, v, y.2.2.2.2.2.2.2.2.2.1, y.2.2.2.2.2.2.2.2.2.2.1, y.2.2.2.2.2.2.2.2.2.2.2.1, y.2.2.2.2.2.2.2.2.2.2.2.2.1, y.2.2.2.2.2.2.2.2.2.2.2.2.2.1, y.2.2.2.2.2.2.2.2.2.2.2.2.2.2)
def vO (y : Yd) (v : List (Int32 × Int32)) : Yd := (y.1, y.2.1, y.2.2.1, y.2.2.2.1, y.2.2.2.2.1, y.2.2.2.2.2.1, y.2.2.2.2.2.2.1, y.2.2.2.2.2.2.2.1, y.2.2.2.2.2.2.2.2.1, v, y.2.2.2.2.2.2.2.2.2.2.1, y.2.2.2.2.2.2.2.2.2.2.2.1, y.2.2.2.2.2.2.2.2.2.2.2.2.1, y.2.2.2.2.2.2.2.2.2.2.2.2.2.1, y.2.2.2.2.2.2.2.2.2.2.2.2.2.2)
def vC (y : Yd) (v : Nat → Nat → Int32) : Yd := (y.1, y.2.1, y.2.2.1, y.2.2.2.1, y.2.2.2.2.1, y.2.2.2.2.2.1, y.2.2.2.2.2.2.1, y.2.2.2.2.2.2.2.1, y.2.2.2.2.2.2.2.2.1, y.2.2.2.2.2.2.2.2.2.1, v, y.2.2.2.2.2.2.2.2.2.2.2.1, y.2.2.2.2.2.2.2.2.2.2.2.2.1, y.2.2.2.2.2.2.2.2.2.2.2.2.2.1, y.2.2.2.2.2.2.2.2.2.2.2.2.2.2)
def vN (y : Yd) (v : Nat) : Yd := (y.1, y.2.1, y.2.2.1, y.2.2.2.1, y.2.2.2.2.1, y.2.2.2.2.2.1, y.2.2.2.2.2.2.1, y.2.2.2.2.2.2.2.1, y.2.2.2.2.2.2.2.2.1, y.2.2.2.2.2.2.2.2.2.1, y.2.2.2.2.2.2.2.2.2.2.1, v, y.2.2.2.2.2.2.2.2.2.2.2.2.1, y.2.2.2.2.2.2.2.2.2.2.2.2.2.1, y.2.2.2.2.2.2.2.2.2.2.2.2.2.2)
def vR (y : Yd) (v : Nat) : Yd := (y.1, y.2.1, y.2.2.1, y.2.2.2.1, y.2.2.2.2.1, y.2.2.2.2.2.1, y.2.2.2.2.2.2.1, y.2.2.2.2.2.2.2.1, y.2.2.2.2.2.2.2.2.1, y.2.2.2.2.2.2.2.2.2.1, y.2.2.2.2.2.2.2.2.2.2.1, y.2.2.2.2.2.2.2.2.2.2.2.1, v, y.2.2.2.2.2.2.2.2.2.2.2.2.2.1, y.2.2.2.2.2.2.2.2.2.2.2.2.2.2)
def vX (y : Yd) (v : Int32) : Yd := (y.1, y.2.1, y.2.2.1, y.2.2.2.1, y.2.2.2.2.1, y.2.2.2.2.2.1, y.2.2.2.2.2.2.1, y.2.2.2.2.2.2.2.1, y.2.2.2.2.2.2.2.2.1, y.2.2.2.2.2.2.2.2.2.1, y.2.2.2.2.2.2.2.2.2.2.1, y.2.2.2.2.2.2.2.2.2.2.2.1, y.2.2.2.2.2.2.2.2.2.2.2.2.1, v, y.2.2.2.2.2.2.2.2.2.2.2.2.2.2)
def vL (y : Yd) (v : Int32) : Yd := (y.1, y.2.1, y.2.2.1, y.2.2.2.1, y.2.2.2.2.1, y.2.2.2.2.2.1, y.2.2.2.2.2.2.1, y.2.2.2.2.2.2.2.1, y.2.2.2.2.2.2.2.2.1, y.2.2.2.2.2.2.2.2.2.1, y.2.2.2.2.2.2.2.2.2.2.1, y.2.2.2.2.2.2.2.2.2.2.2.1, y.2.2.2.2.2.2.2.2.2.2.2.2.1, y.2.2.2.2.2.2.2.2.2.2.2.2.2.1, v)
theorem yFvF (y : Yd) (v : Nat → Int32 → Int32) : yF (vF y v) = v := rfl
theorem yFvB (y : Yd) (v : Nat → Int32 → Bool) : yF (vB y v) = yF y := rfl
theorem yFvH (y : Yd) (v : Int32 → Int × Int × Int) : yF (vH y v) = yF y := rfl
theorem yFvM (y : Yd) (v : List (Int32 × Int32 × Int32)) : yF (vM y v) = yF y := rfl
theorem yFvK (y : Yd) (v : List (Int32 × Int32)) : yF (vK y v) = yF y := rfl
theorem yFvA (y : Yd) (v : List Int32) : yF (vA y v) = yF y := rfl
theorem yFvQ (y : Yd) (v : List Int32) : yF (vQ y v) = yF y := rfl
theorem yFvE (y : Yd) (v : List (Int32 × Int32)) : yF (vE y v) = yF y := rfl
theorem yFvT (y : Yd) (v : List (Int32 × Int × Int32 × Bool)) : yF (vT y v) = yF y := rfl
theorem yFvO (y : Yd) (v : List (Int32 × Int32)) : yF (vO y v) = yF y := rfl
theorem yFvC (y : Yd) (v : Nat → Nat → Int32) : yF (vC y v) = yF y := rfl
theorem yFvN (y : Yd) (v : Nat) : yF (vN y v) = yF y := rfl
theorem yFvR (y : Yd) (v : Nat) : yF (vR y v) = yF y := rfl
theorem yFvX (y : Yd) (v : Int32) : yF (vX y v) = yF y := rfl
theorem yFvL (y : Yd) (v : Int32) : yF (vL y v) = yF y := rfl
theorem yBvF (y : Yd) (v : Nat → Int32 → Int32) : yB (vF y v) = yB y := rfl
theorem yBvB (y : Yd) (v : Nat → Int32 → Bool) : yB (vB y v) = v := rfl
theorem yBvH (y : Yd) (v : Int32 → Int × Int × Int) : yB (vH y v) = yB y := rfl
theorem yBvM (y : Yd) (v : List (Int32 × Int32 × Int32)) : yB (vM y v) = yB y := rfl
theorem yBvK (y : Yd) (v : List (Int32 × Int32)) : yB (vK y v) = yB y := rfl
theorem yBvA (y : Yd) (v : List Int32) : yB (vA y v) = yB y := rfl
theorem yBvQ (y : Yd) (v : List Int32) : yB (vQ y v) = yB y := rfl
theorem yBvE (y : Yd) (v : List (Int32 × Int32)) : yB (vE y v) = yB y := rfl
theorem yBvT (y : Yd) (v : List (Int32 × Int × Int32 × Bool)) : yB (vT y v) = yB y := rfl
theorem yBvO (y : Yd) (v : List (Int32 × Int32)) : yB (vO y v) = yB y := rfl
theorem yBvC (y : Yd) (v : Nat → Nat → Int32) : yB (vC y v) = yB y := rfl
theorem yBvN (y : Yd) (v : Nat) : yB (vN y v) = yB y := rfl
theorem yBvR (y : Yd) (v : Nat) : yB (vR y v) = yB y := rfl
theorem yBvX (y : Yd) (v : Int32) : yB (vX y v) = yB y := rfl
theorem yBvL (y : Yd) (v : Int32) : yB (vL y v) = yB y := rfl
theorem yHvF (y : Yd) (v : Nat → Int32 → Int32) : yH (vF y v) = yH y := rfl
theorem yHvB (y : Yd) (v : Nat → Int32 → Bool) : yH (vB y v) = yH y := rfl
theorem yHvH (y : Yd) (v : Int32 → Int × Int × Int) : yH (vH y v) = v := rfl
theorem yHvM (y : Yd) (v : List (Int32 × Int32 × Int32)) : yH (vM y v) = yH y := rfl
theorem yHvK (y : Yd) (v : List (Int32 × Int32)) : yH (vK y v) = yH y := rfl
theorem yHvA (y : Yd) (v : List Int32) : yH (vA y v) = yH y := rfl
theorem yHvQ (y : Yd) (v : List Int32) : yH (vQ y v) = yH y := rfl
theorem yHvE (y : Yd) (v : List (Int32 × Int32)) : yH (vE y v) = yH y := rfl
theorem yHvT (y : Yd) (v : List (Int32 × Int × Int32 × Bool)) : yH (vT y v) = yH y := rfl
theorem yHvO (y : Yd) (v : List (Int32 × Int32)) : yH (vO y v) = yH y := rfl
theorem yHvC (y : Yd) (v : Nat → Nat → Int32) : yH (vC y v) = yH y := rfl
theorem yHvN (y : Yd) (v : Nat) : yH (vN y v) = yH y := rfl
theorem yHvR (y : Yd) (v : Nat) : yH (vR y v) = yH y := rfl
theorem yHvX (y : Yd) (v : Int32) : yH (vX y v) = yH y := rfl
theorem yHvL (y : Yd) (v : Int32) : yH (vL y v) = yH y := rfl
theorem yMvF (y : Yd) (v : Nat → Int32 → Int32) : yM (vF y v) = yM y := rfl
theorem yMvB (y : Yd) (v : Nat → Int32 → Bool) : yM (vB y v) = yM y := rfl
theorem yMvH (y : Yd) (v : Int32 → Int × Int × Int) : yM (vH y v) = yM y := rfl
theorem yMvM (y : Yd) (v : List (Int32 × Int32 × Int32)) : yM (vM y v) = v := rfl
theorem yMvK (y : Yd) (v : List (Int32 × Int32)) : yM (vK y v) = yM y := rfl
theorem yMvA (y : Yd) (v : List Int32) : yM (vA y v) = yM y := rfl
theorem yMvQ (y : Yd) (v : List Int32) : yM (vQ y v) = yM y := rfl
theorem yMvE (y : Yd) (v : List (Int32 × Int32)) : yM (vE y v) = yM y := rfl
theorem yMvT (y : Yd) (v : List (Int32 × Int × Int32 × Bool)) : yM (vT y v) = yM y := rfl
theorem yMvO (y : Yd) (v : List (Int32 × Int32)) : yM (vO y v) = yM y := rfl
theorem yMvC (y : Yd) (v : Nat → Nat → Int32) : yM (vC y v) = yM y := rfl
theorem yMvN (y : Yd) (v : Nat) : yM (vN y v) = yM y := rfl
theorem yMvR (y : Yd) (v : Nat) : yM (vR y v) = yM y := rfl
theorem yMvX (y : Yd) (v : Int32) : yM (vX y v) = yM y := rfl
theorem yMvL (y : Yd) (v : Int32) : yM (vL y v) = yM y := rfl
theorem yKvF (y : Yd) (v : Nat → Int32 → Int32) : yK (vF y v) = yK y := rfl
theorem yKvB (y : Yd) (v : Nat → Int32 → Bool) : yK (vB y v) = yK y := rfl
theorem yKvH (y : Yd) (v : Int32 → Int × Int × Int) : yK (vH y v) = yK y := rfl
theorem yKvM (y : Yd) (v : List (Int32 × Int32 × Int32)) : yK (vM y v) = yK y := rfl
theorem yKvK (y : Yd) (v : List (Int32 × Int32)) : yK (vK y v) = v := rfl
theorem yKvA (y : Yd) (v : List Int32) : yK (vA y v) = yK y := rfl
theorem yKvQ (y : Yd) (v : List Int32) : yK (vQ y v) = yK y := rfl
theorem yKvE (y : Yd) (v : List (Int32 × Int32)) : yK (vE y v) = yK y := rfl
theorem yKvT (y : Yd) (v : List (Int32 × Int × Int32 × Bool)) : yK (vT y v) = yK y := rfl
theorem yKvO (y : Yd) (v : List (Int32 × Int32)) : yK (vO y v) = yK y := rfl
theorem yKvC (y : Yd) (v : Nat → Nat → Int32) : yK (vC y v) = yK y := rfl
theorem yKvN (y : Yd) (v : Nat) : yK (vN y v) = yK y := rfl
theorem yKvR (y : Yd) (v : Nat) : yK (vR y v) = yK y := rfl
theorem yKvX (y : Yd) (v : Int32) : yK (vX y v) = yK y := rfl
theorem yKvL (y : Yd) (v : Int32) : yK (vL y v) = yK y := rfl
theorem yAvF (y : Yd) (v : Nat → Int32 → Int32) : yA (vF y v) = yA y := rfl
theorem yAvB (y : Yd) (v : Nat → Int32 → Bool) : yA (vB y v) = yA y := rfl
theorem yAvH (y : Yd) (v : Int32 → Int × Int × Int) : yA (vH y v) = yA y := rfl
theorem yAvM (y : Yd) (v : List (Int32 × Int32 × Int32)) : yA (vM y v) = yA y := rfl
theorem yAvK (y : Yd) (v : List (Int32 × Int32)) : yA (vK y v) = yA y := rfl
theorem yAvA (y : Yd) (v : List Int32) : yA (vA y v) = v := rfl
theorem yAvQ (y : Yd) (v : List Int32) : yA (vQ y v) = yA y := rfl
theorem yAvE (y : Yd) (v : List (Int32 × Int32)) : yA (vE y v) = yA y := rfl
theorem yAvT (y : Yd) (v : List (Int32 × Int × Int32 × Bool)) : yA (vT y v) = yA y := rfl
theorem yAvO (y : Yd) (v : List (Int32 × Int32)) : yA (vO y v) = yA y := rfl
theorem yAvC (y : Yd) (v : Nat → Nat → Int32) : yA (vC y v) = yA y := rfl
theorem yAvN (y : Yd) (v : Nat) : yA (vN y v) = yA y := rfl
theorem yAvR (y : Yd) (v : Nat) : yA (vR y v) = yA y := rfl
theorem yAvX (y : Yd) (v : Int32) : yA (vX y v) = yA y := rfl
theorem yAvL (y : Yd) (v : Int32) : yA (vL y v) = yA y := rfl
theorem yQvF (y : Yd) (v : Nat → Int32 → Int32) : yQ (vF y v) = yQ y := rfl
theorem yQvB (y : Yd) (v : Nat → Int32 → Bool) : yQ (vB y v) = yQ y := rfl
theorem yQvH (y : Yd) (v : Int32 → Int × Int × Int) : yQ (vH y v) = yQ y := rfl
theorem yQvM (y : Yd) (v : List (Int32 × Int32 × Int32)) : yQ (vM y v) = yQ y := rfl
theorem yQvK (y : Yd) (v : List (Int32 × Int32)) : yQ (vK y v) = yQ y := rfl
theorem yQvA (y : Yd) (v : List Int32) : yQ (vA y v) = yQ y := rfl
theorem yQvQ (y : Yd) (v : List Int32) : yQ (vQ y v) = v := rfl
theorem yQvE (y : Yd) (v : List (Int32 × Int32)) : yQ (vE y v) = yQ y := rfl
theorem yQvT (y : Yd) (v : List (Int32 × Int × Int32 × Bool)) : yQ (vT y v) = yQ y := rfl
theorem yQvO (y : Yd) (v : List (Int32 × Int32)) : yQ (vO y v) = yQ y := rfl
theorem yQvC (y : Yd) (v : Nat → Nat → Int32) : yQ (vC y v) = yQ y := rfl
theorem yQvN (y : Yd) (v : Nat) : yQ (vN y v) = yQ y := rfl
theorem yQvR (y : Yd) (v : Nat) : yQ (vR y v) = yQ y := rfl
theorem yQvX (y : Yd) (v : Int32) : yQ (vX y v) = yQ y := rfl
theorem yQvL (y : Yd) (v : Int32) : yQ (vL y v) = yQ y := rfl
theorem yEvF (y : Yd) (v : Nat → Int32 → Int32) : yE (vF y v) = yE y := rfl
theorem yEvB (y : Yd) (v : Nat → Int32 → Bool) : yE (vB y v) = yE y := rfl
theorem yEvH (y : Yd) (v : Int32 → Int × Int × Int) : yE (vH y v) = yE y := rfl
theorem yEvM (y : Yd) (v : List (Int32 × Int32 × Int32)) : yE (vM y v) = yE y := rfl
theorem yEvK (y : Yd) (v : List (Int32 × Int32)) : yE (vK y v) = yE y := rfl
theorem yEvA (y : Yd) (v : List Int32) : yE (vA y v) = yE y := rfl
theorem yEvQ (y : Yd) (v : List Int32) : yE (vQ y v) = yE y := rfl
theorem yEvE (y : Yd) (v : List (Int32 × Int32)) : yE (vE y v) = v := rfl
theorem yEvT (y : Yd) (v : List (Int32 × Int × Int32 × Bool)) : yE (vT y v) = yE y := rfl
theorem yEvO (y : Yd) (v : List (Int32 × Int32)) : yE (vO y v) = yE y := rfl
theorem yEvC (y : Yd) (v : Nat → Nat → Int32) : yE (vC y v) = yE y := rfl
theorem yEvN (y : Yd) (v : Nat) : yE (vN y v) = yE y := rfl
theorem yEvR (y : Yd) (v : Nat) : yE (vR y v) = yE y := rfl
theorem yEvX (y : Yd) (v : Int32) : yE (vX y v) = yE y := rfl
theorem yEvL (y : Yd) (v : Int32) : yE (vL y v) = yE y := rfl
theorem yTvF (y : Yd) (v : Nat → Int32 → Int32) : yT (vF y v) = yT y := rfl
theorem yTvB (y : Yd) (v : Nat → Int32 → Bool) : yT (vB y v) = yT y := rfl
theorem yTvH (y : Yd) (v : Int32 → Int × Int × Int) : yT (vH y v) = yT y := rfl
theorem yTvM (y : Yd) (v : List (Int32 × Int32 × Int32)) : yT (vM y v) = yT y := rfl
theorem yTvK (y : Yd) (v : List (Int32 × Int32)) : yT (vK y v) = yT y := rfl
theorem yTvA (y : Yd) (v : List Int32) : yT (vA y v) = yT y := rfl
theorem yTvQ (y : Yd) (v : List Int32) : yT (vQ y v) = yT y := rfl
theorem yTvE (y : Yd) (v : List (Int32 × Int32)) : yT (vE y v) = yT y := rfl
theorem yTvT (y : Yd) (v : List (Int32 × Int × Int32 × Bool)) : yT (vT y v) = v := rfl
theorem yTvO (y : Yd) (v : List (Int32 × Int32)) : yT (vO y v) = yT y := rfl
theorem yTvC (y : Yd) (v : Nat → Nat → Int32) : yT (vC y v) = yT y := rfl
theorem yTvN (y : Yd) (v : Nat) : yT (vN y v) = yT y := rfl
theorem yTvR (y : Yd) (v : Nat) : yT (vR y v) = yT y := rfl
theorem yTvX (y : Yd) (v : Int32) : yT (vX y v) = yT y := rfl
theorem yTvL (y : Yd) (v : Int32) : yT (vL y v) = yT y := rfl
theorem yOvF (y : Yd) (v : Nat → Int32 → Int32) : yO (vF y v) = yO y := rfl
theorem yOvB (y : Yd) (v : Nat → Int32 → Bool) : yO (vB y v) = yO y := rfl
theorem yOvH (y : Yd) (v : Int32 → Int × Int × Int) : yO (vH y v) = yO y := rfl
theorem yOvM (y : Yd) (v : List (Int32 × Int32 × Int32)) : yO (vM y v) = yO y := rfl
theorem yOvK (y : Yd) (v : List (Int32 × Int32)) : yO (vK y v) = yO y := rfl
theorem yOvA (y : Yd) (v : List Int32) : yO (vA y v) = yO y := rfl
theorem yOvQ (y : Yd) (v : List Int32) : yO (vQ y v) = yO y := rfl
theorem yOvE (y : Yd) (v : List (Int32 × Int32)) : yO (vE y v) = yO y := rfl
theorem yOvT (y : Yd) (v : List (Int32 × Int × Int32 × Bool)) : yO (vT y v) = yO y := rfl
theorem yOvO (y : Yd) (v : List (Int32 × Int32)) : yO (vO y v) = v := rfl
theorem yOvC (y : Yd) (v : Nat → Nat → Int32) : yO (vC y v) = yO y := rfl
theorem yOvN (y : Yd) (v : Nat) : yO (vN y v) = yO y := rfl
theorem yOvR (y : Yd) (v : Nat) : yO (vR y v) = yO y := rfl
theorem yOvX (y : Yd) (v : Int32) : yO (vX y v) = yO y := rfl
theorem yOvL (y : Yd) (v : Int32) : yO (vL y v) = yO y := rfl
theorem yCvF (y : Yd) (v : Nat → Int32 → Int32) : yC (vF y v) = yC y := rfl
theorem yCvB (y : Yd) (v : Nat → Int32 → Bool) : yC (vB y v) = yC y := rfl
theorem yCvH (y : Yd) (v : Int32 → Int × Int × Int) : yC (vH y v) = yC y := rfl
theorem yCvM (y : Yd) (v : List (Int32 × Int32 × Int32)) : yC (vM y v) = yC y := rfl
theorem yCvK (y : Yd) (v : List (Int32 × Int32)) : yC (vK y v) = yC y := rfl
theorem yCvA (y : Yd) (v : List Int32) : yC (vA y v) = yC y := rfl
theorem yCvQ (y : Yd) (v : List Int32) : yC (vQ y v) = yC y := rfl
theorem yCvE (y : Yd) (v : List (Int32 × Int32)) : yC (vE y v) = yC y := rfl
theorem yCvT (y : Yd) (v : List (Int32 × Int × Int32 × Bool)) : yC (vT y v) = yC y := rfl
theorem yCvO (y : Yd) (v : List (Int32 × Int32)) : yC (vO y v) = yC y := rfl
theorem yCvC (y : Yd) (v : Nat → Nat → Int32) : yC (vC y v) = v := rfl
theorem yCvN (y : Yd) (v : Nat) : yC (vN y v) = yC y := rfl
theorem yCvR (y : Yd) (v : Nat) : yC (vR y v) = yC y := rfl
theorem yCvX (y : Yd) (v : Int32) : yC (vX y v) = yC y := rfl
theorem yCvL (y : Yd) (v : Int32) : yC (vL y v) = yC y := rfl
theorem yNvF (y : Yd) (v : Nat → Int32 → Int32) : yN (vF y v) = yN y := rfl
theorem yNvB (y : Yd) (v : Nat → Int32 → Bool) : yN (vB y v) = yN y := rfl
theorem yNvH (y : Yd) (v : Int32 → Int × Int × Int) : yN (vH y v) = yN y := rfl
theorem yNvM (y : Yd) (v : List (Int32 × Int32 × Int32)) : yN (vM y v) = yN y := rfl
theorem yNvK (y : Yd) (v : List (Int32 × Int32)) : yN (vK y v) = yN y := rfl
theorem yNvA (y : Yd) (v : List Int32) : yN (vA y v) = yN y := rfl
theorem yNvQ (y : Yd) (v : List Int32) : yN (vQ y v) = yN y := rfl
theorem yNvE (y : Yd) (v : List (Int32 × Int32)) : yN (vE y v) = yN y := rfl
theorem yNvT (y : Yd) (v : List (Int32 × Int × Int32 × Bool)) : yN (vT y v) = yN y := rfl
theorem yNvO (y : Yd) (v : List (Int32 × Int32)) : yN (vO y v) = yN y := rfl
theorem yNvC (y : Yd) (v : Nat → Nat → Int32) : yN (vC y v) = yN y := rfl
theorem yNvN (y : Yd) (v : Nat) : yN (vN y v) = v := rfl
theorem yNvR (y : Yd) (v : Nat) : yN (vR y v) = yN y := rfl
theorem yNvX (y : Yd) (v : Int32) : yN (vX y v) = yN y := rfl
theorem yNvL (y : Yd) (v : Int32) : yN (vL y v) = yN y := rfl
theorem yRvF (y : Yd) (v : Nat → Int32 → Int32) : yR (vF y v) = yR y := rfl
theorem yRvB (y : Yd) (v : Nat → Int32 → Bool) : yR (vB y v) = yR y := rfl
theorem yRvH (y : Yd) (v : Int32 → Int × Int × Int) : yR (vH y v) = yR y := rfl
theorem yRvM (y : Yd) (v : List (Int32 × Int32 × Int32)) : yR (vM y v) = yR y := rfl
theorem yRvK (y : Yd) (v : List (Int32 × Int32)) : yR (vK y v) = yR y := rfl
theorem yRvA (y : Yd) (v : List Int32) : yR (vA y v) = yR y := rfl
theorem yRvQ (y : Yd) (v : List Int32) : yR (vQ y v) = yR y := rfl
theorem yRvE (y : Yd) (v : List (Int32 × Int32)) : yR (vE y v) = yR y := rfl
theorem yRvT (y : Yd) (v : List (Int32 × Int × Int32 × Bool)) : yR (vT y v) = yR y := rfl
theorem yRvO (y : Yd) (v : List (Int32 × Int32)) : yR (vO y v) = yR y := rfl
theorem yRvC (y : Yd) (v : Nat → Nat → Int32) : yR (vC y v) = yR y := rfl
theorem yRvN (y : Yd) (v : Nat) : yR (vN y v) = yR y := rfl
theorem yRvR (y : Yd) (v : Nat) : yR (vR y v) = v := rfl
theorem yRvX (y : Yd) (v : Int32) : yR (vX y v) = yR y := rfl
theorem yRvL (y : Yd) (v : Int32) : yR (vL y v) = yR y := rfl
theorem yXvF (y : Yd) (v : Nat → Int32 → Int32) : yX (vF y v) = yX y := rfl
theorem yXvB (y : Yd) (v : Nat → Int32 → Bool) : yX (vB y v) = yX y := rfl
theorem yXvH (y : Yd) (v : Int32 → Int × Int × Int) : yX (vH y v) = yX y := rfl
theorem yXvM (y : Yd) (v : List (Int32 × Int32 × Int32)) : yX (vM y v) = yX y := rfl
theorem yXvK (y : Yd) (v : List (Int32 × Int32)) : yX (vK y v) = yX y := rfl
theorem yXvA (y : Yd) (v : List Int32) : yX (vA y v) = yX y := rfl
theorem yXvQ (y : Yd) (v : List Int32) : yX (vQ y v) = yX y := rfl
theorem yXvE (y : Yd) (v : List (Int32 × Int32)) : yX (vE y v) = yX y := rfl
theorem yXvT (y : Yd) (v : List (Int32 × Int × Int32 × Bool)) : yX (vT y v) = yX y := rfl
theorem yXvO (y : Yd) (v : List (Int32 × Int32)) : yX (vO y v) = yX y := rfl
theorem yXvC (y : Yd) (v : Nat → Nat → Int32) : yX (vC y v) = yX y := rfl
theorem yXvN (y : Yd) (v : Nat) : yX (vN y v) = yX y := rfl
theorem yXvR (y : Yd) (v : Nat) : yX (vR y v) = yX y := rfl
theorem yXvX (y : Yd) (v : Int32) : yX (vX y v) = v := rfl
theorem yXvL (y : Yd) (v : Int32) : yX (vL y v) = yX y := rfl
theorem yLvF (y : Yd) (v : Nat → Int32 → Int32) : yL (vF y v) = yL y := rfl
theorem yLvB (y : Yd) (v : Nat → Int32 → Bool) : yL (vB y v) = yL y := rfl
theorem yLvH (y : Yd) (v : Int32 → Int × Int × Int) : yL (vH y v) = yL y := rfl
theorem yLvM (y : Yd) (v : List (Int32 × Int32 × Int32)) : yL (vM y v) = yL y := rfl
theorem yLvK (y : Yd) (v : List (Int32 × Int32)) : yL (vK y v) = yL y := rfl
theorem yLvA (y : Yd) (v : List Int32) : yL (vA y v) = yL y := rfl
theorem yLvQ (y : Yd) (v : List Int32) : yL (vQ y v) = yL y := rfl
theorem yLvE (y : Yd) (v : List (Int32 × Int32)) : yL (vE y v) = yL y := rfl
theorem yLvT (y : Yd) (v : List (Int32 × Int × Int32 × Bool)) : yL (vT y v) = yL y := rfl
theorem yLvO (y : Yd) (v : List (Int32 × Int32)) : yL (vO y v) = yL y := rfl
theorem yLvC (y : Yd) (v : Nat → Nat → Int32) : yL (vC y v) = yL y := rfl
theorem yLvN (y : Yd) (v : Nat) : yL (vN y v) = yL y := rfl
theorem yLvR (y : Yd) (v : Nat) : yL (vR y v) = yL y := rfl
theorem yLvX (y : Yd) (v : Int32) : yL (vX y v) = yL y := rfl
theorem yLvL (y : Yd) (v : Int32) : yL (vL y v) = v := rfl
