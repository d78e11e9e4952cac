/-! ABSTRACT OPERATIONS -/
def aTruth (x : AV) : Int32 := if x.1 = 1 ∨ x.1 = 2 then (if x.2.1 = 0 then 0 else 1) else if x.1 = 3 then (if lA x = 0 then 0 else 1) else -1
def aSame (x y : AV) : Int32 :=
  if x.1 = 0 ∨ y.1 = 0 then -1 else if ¬ x.1 = y.1 then (if x.1 = 4 ∨ y.1 = 4 then 0 else -1)
  else if x.1 = 3 then (if x.2.2.1 = y.2.2.1 ∧ x.2.2.2 = y.2.2.2 then 1 else 0) else (if x.2.1 = y.2.1 then 1 else 0)
def aBef : List Int32 → List Int32 → Bool
  | [], [] => false
  | [], _ :: _ => true
  | _ :: _, [] => false
  | a :: l, b :: r => if a = b then aBef l r else decide (a < b)
def aLess (x y : AV) : Int32 :=
  if ¬ x.1 = y.1 then -1 else if x.1 = 2 ∨ x.1 = 1 then (if x.2.1 < y.2.1 then 1 else 0)
  else if x.1 = 3 ∧ x.2.2.1 = y.2.2.1 then (if aBef x.2.2.2 y.2.2.2 then 1 else 0) else -1
def aTrs (op : Int32) (x y z : AV) : Int32 :=
  if op = 0 then tNot (aTruth x) else if op = 1 then tAnd (aTruth x) (aTruth y) else if op = 2 then tOr (aTruth x) (aTruth y)
  else if op = 3 then aSame x y else if op = 4 then aLess x y else if op = 29 then tOr (aSame x y) (aSame x z) else -1
def aWhs (op : Int32) (x y : AV) : AV :=
  if ¬ x.1 = 2 ∨ ¬ y.1 = 2 then aErr
  else if op = 5 then aWh (x.2.1 + y.2.1) else if op = 6 then aWh (x.2.1 - y.2.1)
  else if op = 7 then (if lAbs x.2.1 = 0 ∨ lAbs y.2.1 ≤ 1000000000000000 / lAbs x.2.1 then aWh (x.2.1 * y.2.1) else aErr)
  else if y.2.1 = 0 then aErr else if op = 8 then aWh (x.2.1 / y.2.1) else aWh (x.2.1 - x.2.1 / y.2.1 * y.2.1)
/-- whether y's bytes stand in x at p -/
def aHas (x : AV) (p : Nat) (y : AV) : Bool := decide (p + lA y ≤ lA x) && (List.range (lA y)).all fun k => bA x (p + k) == bA y k
def aFind (x y : AV) : Option Nat := (List.range (lA x + 1)).find? fun p => aHas x p y
def aPt (x : AV) (B D : Int64) : List Int32 :=
  if min (lA x : Int) (B.toInt - 1 + D.toInt) ≤ max B.toInt 1 - 1 then [] else aPart x (max B.toInt 1 - 1).toNat ((min (lA x : Int) (B.toInt - 1 + D.toInt)).toNat - (max B.toInt 1 - 1).toNat)
def aSk (op : Int32) (x y : AV) : AV :=
  if ¬ y.1 = 3 ∨ (¬ y.2.2.1 = 0 ∧ ¬ y.2.2.1 = x.2.2.1) then aErr
  else if op = 15 then aTr (fdLt (aFind x y)) else if op = 16 then aTr (if aHas x 0 y then 1 else 0)
  else if op = 17 then aTr (if decide (lA y ≤ lA x) && aHas x (lA x - lA y) y then 1 else 0)
  else match aFind x y with
    | none => aTx 0 []
    | some q => if op = 18 then aTx x.2.2.1 (aPart x 0 q) else aTx x.2.2.1 (aPart x (q + lA y) (lA x - (q + lA y)))
def aTu (x y z : AV) : Nat → Nat → Nat → List Int32
  | 0, _, _ => []
  | r + 1, q, be => if q < be then aTu x y z r (q + 1) be else if aHas x q y = true then z.2.2.2 ++ aTu x y z r (q + 1) (q + lA y) else bA x q :: aTu x y z r (q + 1) be
def aTxs (op : Int32) (x y z : AV) : AV :=
  if ¬ x.1 = 3 then aErr
  else if op = 10 then aWh (lN (lA x))
  else if op = 11 then (if ¬ y.1 = 2 ∨ ¬ z.1 = 2 then aErr else aTx x.2.2.1 (aPt x y.2.1 z.2.1))
  else if op = 12 then aTx x.2.2.1 (x.2.2.2.map (rsF 97 (-32))) else if op = 13 then aTx x.2.2.1 (x.2.2.2.map (rsF 65 32))
  else if op = 14 then (if y.1 = 3 then aTx (if x.2.2.1 = y.2.2.1 then x.2.2.1 else 0) (x.2.2.2 ++ y.2.2.2) else aErr)
  else if op = 20 then (if x.2.2.1 = 0 then aTx 0 [] else aTx 0 [96 + x.2.2.1])
  else if op = 28 then (if ¬ (y.1 = 3 ∧ y.2.2.1 = 0) ∨ ¬ (z.1 = 3 ∧ z.2.2.1 = 0) ∨ lA y = 0 then aErr else aTx x.2.2.1 (aTu x y z (lA x) 0 0))
  else aSk op x y
def aRd (x : AV) : AV :=
  if bA x 0 = 45 then (let r := rdF (bA x) (lA x - 1) 1 (if ¬ nI (lA x) - 1 < 1 ∧ ¬ 15 < nI (lA x) - 1 then 1 else 0) 0; if r.1 = 0 then aErr else aWh (-r.2))
  else (let r := rdF (bA x) (lA x) 0 (if ¬ nI (lA x) - 0 < 1 ∧ ¬ 15 < nI (lA x) - 0 then 1 else 0) 0; if r.1 = 0 then aErr else aWh r.2)
def aNum (x : AV) : AV := if x.1 = 2 ∨ x.1 = 1 then aWh x.2.1 else if x.1 = 3 ∧ x.2.2.1 = 0 then aRd x else aErr
def aWo (x : AV) : AV :=
  if x.1 = 3 then aTx 0 x.2.2.2 else if x.1 = 1 then aTx 0 (if x.2.1 = 1 then [116, 114, 117, 101] else [102, 97, 108, 115, 101])
  else if x.1 = 4 then aTx 0 (35 :: dgL (lAbs x.2.1)) else if x.2.1 < 0 then aTx 0 (45 :: dgL (lAbs x.2.1)) else aTx 0 (dgL (lAbs x.2.1))
def aCas (op : Int32) (x y z : AV) : AV :=
  if op = 23 then (if x.1 = 0 then y else x) else if op = 22 then (if aTruth x = -1 then aErr else if aTruth x = 1 then y else z)
  else if x.1 = 0 then aErr else if op = 21 then aWh x.1.toInt64 else if op = 25 then aNum x else aWo x
/-- the pattern's answer over abstract values -/
def aTt (x : AV) (lo hi : Int32) : Int32 := plF (bA x) lo hi (lA x) 0 0
def aGo (x y : AV) : Int32 := if x.1 = 3 ∧ y.1 = 3 ∧ y.2.2.1 = 0 then goV (bA y) (aTt x) (lA x) (lA y) else -1
def opV (op : Int32) (x y z : AV) (gv : Int32) : AV :=
  if op = 24 then aTr gv else if op = 27 then aTr (aGo x y)
  else if ¬ op < 5 ∧ ¬ 9 < op then aWhs op x y
  else if (¬ op < 10 ∧ op ≤ 20) ∨ op = 28 then aTxs op x y z
  else if ¬ op < 21 ∧ ¬ 26 < op then aCas op x y z else aTr (aTrs op x y z)
