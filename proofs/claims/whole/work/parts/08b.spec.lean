/-! The spec's steps -/
def up1 {α : Type} (f : Int32 → α) (k : Int32) (v : α) : Int32 → α := fun j => if j = k then v else f j
def up2 {α : Type} (f : Nat → Int32 → α) (n : Nat) (k : Int32) (v : α) : Nat → Int32 → α := fun a b => if a = n ∧ b = k then v else f a b
def isK (a b : Int32) (q : Int32 × Int32) : Bool := (q.1 == a && q.2 == b) || (q.1 == b && q.2 == a)
def lkd (y : Yd) (a b : Int32) : Bool := (yK y).any (isK a b)
def mbx (y : Yd) (i : Int32) : List (Int32 × Int32 × Int32) := (yM y).filter (fun m => m.1 == i)
def bI (b : Bool) : Int32 := if b = true then 1 else 0
def setF (y : Yd) (n : Nat) (i v : Int32) : Yd := vF y (up2 (yF y) n i v)
def setB (y : Yd) (n : Nat) (i : Int32) (v : Bool) : Yd := vB y (up2 (yB y) n i v)
def rg (a : Int32) : Nat := 8 + a.toNatClampNeg
def yReady (y : Yd) (i : Int32) : Yd := vQ (setF (setB y 1 i false) 4 i 0) (yQ y ++ [i])
def yDrop (y : Yd) (i : Int32) : Yd := vT y ((yT y).filter (fun t => !(t.1 == i && t.2.2.2)))
def yDel (y : Yd) (i s v : Int32) : Yd := if yR y = 0 then vX y (yX y + 1) else
  if yB y 1 i = true then yReady (yDrop (vM (vR y (yR y - 1)) (yM y ++ [(i, s, v)])) i) i else vM (vR y (yR y - 1)) (yM y ++ [(i, s, v)])
def yEnd (y : Yd) (i r : Int32) : Yd := if (yE y).any (fun e => e.1 == i) = true then y else vE y (yE y ++ [(i, r)])
def yExit (y : Yd) (i s r : Int32) : Yd := if yB y 0 i = true then yDel y i s r else if r = 0 then y else yEnd y i r
def nF (en ar ov : Int32) (n : Nat) : Int32 := match n with
  | 0 => en
  | 1 => ar
  | 2 => ov
  | 3 => en
  | 8 => ar
  | _ => 0
def yNew (y : Yd) (en ar ov : Int32) : Yd := yReady (vA (vL (vH (vB (vF y (fun n j => if j = yL y + 1 then nF en ar ov n else yF y n j)) (fun n j => if j = yL y + 1 then false else yB y n j)) (up1 (yH y) (yL y + 1) (-10, -10, -10))) (yL y + 1)) (yA y ++ [yL y + 1])) (yL y + 1)
def yBegin (y : Yd) (en ar ov : Int32) : Yd × Option Int32 := if (yA y).length < 8 then (yNew y en ar ov, some (yL y + 1)) else (y, none)
def yClock (y : Yd) (i b v : Int32) (l : Bool) : Yd := if (yT y).length < 10 then vT y (yT y ++ [(i, (yN y : Int) + b.toInt, v, l)]) else y
def yTake (y : Yd) (i a b : Int32) : Yd := match mbx y i with
  | m :: _ => vR (vM (setF (setF y 11 i m.2.1) (rg a) i m.2.2) ((yM y).eraseP (fun m => m.1 == i))) (yR y + 1)
  | [] => if 1 ≤ b then yClock (vQ (setB (setF y 3 i (yF y 3 i - 1)) 1 i true) ((yQ y).erase i)) i b 0 true else vQ (setB (setF y 3 i (yF y 3 i - 1)) 1 i true) ((yQ y).erase i)
def yLink (y : Yd) (i a : Int32) : Yd :=
  if ¬ yF y (rg a) i ∈ yA y then yExit y i (yF y (rg a) i) (-1)
  else if yF y (rg a) i = i ∨ lkd y i (yF y (rg a) i) = true then y
  else if yR y = 0 then setF y (rg a) i (-1)
  else vK (vR y (yR y - 1)) (yK y ++ [(i, yF y (rg a) i)])
def yPut (y : Yd) (v i : Int32) : Yd := if (yO y).length < 60 then vO y (yO y ++ [(v, i)]) else y
def ySpawn (y : Yd) (i a b ov : Int32) : Yd := match yBegin y b (yF y (rg a) i) ov with
  | (z, some k) => setF z (rg a) i k
  | (z, none) => setF z (rg a) i (-1)
def yAct (y : Yd) (i op a b : Int32) : Yd :=
  if op = 0 then setF y (rg a) i b
  else if op = 1 then setF y (rg a) i (yF y (rg a) i + yF y (rg b) i)
  else if op = 2 then (if yF y (rg a) i < yF y (rg b) i then setF y 3 i (yF y 3 i + 1) else y)
  else if op = 3 then setF y 3 i b
  else if op = 4 then (if yF y (rg a) i ∈ yA y then yDel y (yF y (rg a) i) i (yF y (rg b) i) else y)
  else if op = 5 then yTake y i a b
  else if op = 6 then ySpawn y i a b 0
  else if op = 7 then ySpawn y i a b i
  else if op = 8 then yLink y i a
  else if op = 9 then setB y 0 i (decide (b ≠ 0))
  else if op = 10 then yEnd y i (yF y (rg a) i)
  else if op = 11 then yPut y (yF y (rg a) i) i
  else if op = 12 then setF y (rg a) i i
  else yClock y i b (yF y (rg a) i) false
def cellOk (y : Yd) (c : Int32) : Prop := 0 ≤ c ∧ c < 48 ∧ ¬ yC y 0 c.toNatClampNeg = -1
def yPerf (y : Yd) (i : Int32) : Yd :=
  if 0 ≤ yF y 3 i ∧ yF y 3 i < 48 ∧ ¬ yC y 0 (yF y 3 i).toNatClampNeg = -1 then yAct (setF y 3 i (yF y 3 i + 1)) i (yC y 0 (yF y 3 i).toNatClampNeg) (yC y 1 (yF y 3 i).toNatClampNeg) (yC y 2 (yF y 3 i).toNatClampNeg)
  else yEnd y i (-5)
def yBury (y : Yd) (x : Int32) : Yd := vM (vR (vT (vQ (vA (vE y ((yE y).tail)) ((yA y).erase x)) ((yQ y).erase x)) ((yT y).filter (fun t => !(t.1 == x)))) (yR y + (mbx y x).length)) ((yM y).filter (fun m => !(m.1 == x)))
def yExits (x r : Int32) : List Int32 → Yd → Yd
  | [], y => y
  | z :: l, y => yExits x r l (if lkd y z x = true then yExit (vR (vK y ((yK y).eraseP (isK z x))) (yR y + 1)) z x r else y)
def yOrph (x : Int32) : List Int32 → Yd → Yd
  | [], y => y
  | z :: l, y => yOrph x l (if yF y 2 z = x then yEnd y z (-2) else y)
def yHist (y : Yd) (o : Int32) : Yd := vH (setF y 5 o (yF y 5 o + 1)) (up1 (yH y) o ((yH y o).2.1, (yH y o).2.2, (yN y : Int)))
def yTell (y : Yd) (x : Int32) : Yd :=
  if yF y 2 x ∈ yA y then (if (yH y (yF y 2 x)).1 ≤ (yN y : Int) - 10 then (yBegin (yHist y (yF y 2 x)) (yF y 0 x) (yF y 1 x) (yF y 2 x)).1 else yEnd y (yF y 2 x) (-3)) else y
def ySettle (y : Yd) : Yd := match yE y with
  | [] => y
  | e :: _ => if e.2 = 0 then yOrph e.1 (yA (yBury y e.1)) (yExits e.1 e.2 (yA (yBury y e.1)) (yBury y e.1)) else yTell (yOrph e.1 (yA (yBury y e.1)) (yExits e.1 e.2 (yA (yBury y e.1)) (yBury y e.1))) e.1
def ySettles : Nat → Yd → Yd
  | 0, y => y
  | n + 1, y => match yE y with
    | [] => y
    | _ :: _ => ySettles n (ySettle y)
def yTurn (y : Yd) (i : Int32) : Yd := if (yQ y).head? = some i ∧ 5 ≤ yF y 4 i then yReady (vQ y ((yQ y).erase i)) i else y
def yStep (y : Yd) : Yd × Int32 := match yQ y with
  | [] => (y, 0)
  | i :: _ => (yTurn (ySettles 1000 (yPerf (setF y 4 i (yF y 4 i + 1)) i)) i, i)
def yRun : Nat → Yd → Int32 → Yd × Int32
  | 0, y, k => (y, k)
  | m + 1, y, k => if (yStep y).2 = 0 then ((yStep y).1, k) else yRun m (yStep y).1 (k + 1)
def yRing (y : Yd) (t : Int32 × Int × Int32 × Bool) : Yd := if t.2.2.2 = true then yReady (setF y 3 t.1 (yF y 3 t.1 + 2)) t.1 else yDel y t.1 t.1 t.2.2.1
def yTicks : Nat → Yd → Int32 → Yd × Int32
  | 0, y, k => (y, k)
  | m + 1, y, k => match (yT y).find? (fun t => t.2.1 == (yN y : Int)) with
    | none => (y, k)
    | some t => yTicks m (yRing (vT y ((yT y).eraseP (fun t => t.2.1 == (yN y : Int)))) t) (k + 1)
