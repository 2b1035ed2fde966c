/-! PASS 2, pure: TYPE, faults and the reference's codes of a node; k: more than the node's number -/
section SP
variable (fM : Wd) (lu : Nat → Nat) (lev cur : Nat)
/-- a number out of a table -/
abbrev nd (k n : Nat) : Nat := (gi fM k n).toNatClampNeg
/-- nodes in a row -/
def nxL : Nat → Int32 → List Nat
  | 0, _ => []
  | k + 1, x => if x < 0 then [] else x.toNatClampNeg :: nxL k (gi fM 11 x.toNatClampNeg)
/-- in procedure p, which is q or one round it -/
def inPr (p : Int32) : Nat → Int32 → Bool
  | 0, _ => false
  | k + 1, q => if q ≤ 0 then false else if q = p then true else inPr p k (gi fM 37 q.toNatClampNeg)
/-- the TYPE of an ELEMENT of l, of a call of l -/
def tyE (l : Nat) : Int32 := if l = 0 then 0 else if gi fM 19 (l - 1) = 2 ∨ FO fM (l - 1) 2 then gi fM 20 (l - 1) else 0
def tyC (l : Nat) : Int32 := if l = 0 then 0 else if gi fM 19 (l - 1) = 3 ∨ FO fM (l - 1) 3 then gi fM 20 (l - 1) else 0
/-- TYPES of signs for two: the reference's level is over 6 -/
def sgY (s : Int32) : Int32 := if s = 43 ∨ s = 45 ∨ s = 42 ∨ s = 282 ∨ s = 283 ∨ s = 94 then 1 else 2
/-- TYPE of a node that stands as an EXPR -/
def TYX : Nat → Nat → Int32
  | 0, _ => 0
  | k + 1, n =>
    if gi fM 7 n = 1 then 1 else if gi fM 7 n = 2 then 2 else if gi fM 7 n = 9 then TYX k (nd fM 8 n) else if gi fM 7 n = 3 then tyY fM (lu (nd fM 12 n)) else if gi fM 7 n = 4 then tyE fM (lu (nd fM 12 n)) else if gi fM 7 n = 5 then tyC fM (lu (nd fM 12 n))
    else if gi fM 7 n = 8 then (if TYX k (nd fM 9 n) ≠ 0 ∧ TYX k (nd fM 10 n) ≠ 0 ∧ TYX k (nd fM 9 n) ≠ TYX k (nd fM 10 n) then 0 else if TYX k (nd fM 9 n) ≠ 0 then TYX k (nd fM 9 n) else TYX k (nd fM 10 n))
    else if gi fM 7 n = 7 then (if gi fM 9 n = 281 then 2 else 1) else sgY (gi fM 9 n)
/-- a TYPE that it must not be -/
def misT (is want : Int32) (tk : Nat) : List (Nat × Int32) := if is ≠ 0 ∧ is ≠ want then [(tk, 4)] else []
/-- of another SORT: a fault, but for a formal without SPEC -/
def misS (l tk : Nat) : List (Nat × Int32) := if FO fM (l - 1) 0 then [] else [(tk, 4)]
def notD (l tk : Nat) : List (Nat × Int32) := if l = 0 then [(tk, 2)] else []
/-- faults; mode 0: an EXPR, 1: a place (f: 1 of a for), 2: an AIM, 3: NAMES only, 4: looked at only, 5: an ACTUAL for the formal f -/
def FLX : Nat → Nat → Nat → Nat → List (Nat × Int32)
  | 0, _, _, _ => []
  | k + 1, md, n, f =>
    let mb : Nat → Int32 → List (Nat × Int32) := fun x ty => FLX k 0 x 0 ++ misT (TYX fM lu k x) ty (nd fM 12 x)
    let tk := nd fM 12 n
    let l := lu tk
    let el : List (Nat × Int32) := notD l tk ++ (nxL fM k (gi fM 8 n)).flatMap (fun x => mb x 1) ++
      (if l = 0 then [] else if gi fM 19 (l - 1) = 2 ∨ FO fM (l - 1) 2 then (if (gi fM 19 (l - 1) = 2 ∧ gi fM 24 (l - 1) ≠ gi fM 9 n) ∨ (FO fM (l - 1) 2 ∧ ¬ gi fM 9 n ≤ 3) then [(tk, 5)] else []) else misS fM l tk)
    if md = 0 then
      (if gi fM 7 n = 1 ∨ gi fM 7 n = 2 then []
      else if gi fM 7 n = 9 then FLX k 0 (nd fM 8 n) 0
      else if gi fM 7 n = 3 then flY fM l tk
      else if gi fM 7 n = 4 then el
      else if gi fM 7 n = 5 then notD l tk ++ (if l = 0 ∨ gi fM 19 (l - 1) ≠ 3 then (nxL fM k (gi fM 8 n)).flatMap (fun x => FLX k 4 x 0) ++ (if l = 0 then [] else if FO fM (l - 1) 3 then [(tk, 5)] ++ (if f = 0 ∧ gi fM 20 (l - 1) = 0 then [(tk, 4)] else []) else misS fM l tk)
        else (if f = 0 ∧ gi fM 20 (l - 1) = 0 then [(tk, 4)] else []) ++ (if gi fM 31 (nd fM 24 (l - 1)) ≠ gi fM 9 n then [(tk, 5)] else []) ++ (nxL fM k (gi fM 8 n)).zipIdx.flatMap (fun xi => if xi.2 < nd fM 31 (nd fM 24 (l - 1)) then FLX k 5 xi.1 (nd fM 32 (nd fM 24 (l - 1)) + xi.2) else FLX k 4 xi.1 0))
      else if gi fM 7 n = 8 then mb (nd fM 8 n) 2 ++ FLX k 0 (nd fM 9 n) 0 ++ FLX k 0 (nd fM 10 n) 0 ++ (if TYX fM lu k (nd fM 9 n) ≠ 0 then misT (TYX fM lu k (nd fM 10 n)) (TYX fM lu k (nd fM 9 n)) (nd fM 12 (nd fM 10 n)) else [])
      else if gi fM 7 n = 7 then mb (nd fM 8 n) (if gi fM 9 n = 281 then 2 else 1)
      else FLX k 0 (nd fM 8 n) 0 ++ (if gi fM 9 n = 61 ∨ gi fM 9 n = 289 then FLX k 0 (nd fM 10 n) 0 ++ (if TYX fM lu k (nd fM 8 n) ≠ 0 then misT (TYX fM lu k (nd fM 10 n)) (TYX fM lu k (nd fM 8 n)) (nd fM 12 (nd fM 10 n)) else [])
        else misT (TYX fM lu k (nd fM 8 n)) (if gi fM 9 n = 280 ∨ gi fM 9 n = 279 ∨ gi fM 9 n = 278 ∨ gi fM 9 n = 277 then 2 else 1) (nd fM 12 (nd fM 8 n)) ++ mb (nd fM 10 n) (if gi fM 9 n = 280 ∨ gi fM 9 n = 279 ∨ gi fM 9 n = 278 ∨ gi fM 9 n = 277 then 2 else 1)))
    else if md = 1 then
      (if gi fM 7 n = 4 then el else notD l tk ++ (if l = 0 ∨ gi fM 19 (l - 1) = 1 ∨ FO fM (l - 1) 1 then [] else if f = 0 ∧ gi fM 19 (l - 1) = 3 ∧ gi fM 20 (l - 1) ≠ 0 ∧ inPr fM (gi fM 24 (l - 1)) 9000 (Int32.ofNat cur) = true then [] else misS fM l tk))
    else if md = 2 then
      (if gi fM 7 n = 9 then FLX k 2 (nd fM 8 n) 0
      else if gi fM 7 n = 8 then mb (nd fM 8 n) 2 ++ FLX k 2 (nd fM 9 n) 0 ++ FLX k 2 (nd fM 10 n) 0
      else if gi fM 7 n = 3 then notD l tk ++ (if l = 0 ∨ gi fM 19 (l - 1) = 4 ∨ FO fM (l - 1) 4 then [] else misS fM l tk)
      else if gi fM 7 n = 4 ∧ gi fM 9 n = 1 then notD l tk ++ mb (nd fM 8 n) 1 ++ (if l = 0 ∨ gi fM 19 (l - 1) = 5 ∨ FO fM (l - 1) 5 then [] else misS fM l tk)
      else [(tk, 4)] ++ FLX k 4 n 0)
    else if md = 3 then
      (if gi fM 7 n = 9 then FLX k 3 (nd fM 8 n) 0
      else if gi fM 7 n = 8 then mb (nd fM 8 n) 2 ++ FLX k 3 (nd fM 9 n) 0 ++ FLX k 3 (nd fM 10 n) 0
      else notD l tk ++ (if gi fM 7 n = 4 then mb (nd fM 8 n) 1 else []))
    else if md = 4 then (if gi fM 45 n = 1 then FLX k 0 n 0 else FLX k 3 n 0)
    else
      (if gi fM 24 f = 1 then
        (let is := if gi fM 7 n = 3 ∧ l ≠ 0 ∧ FO fM (l - 1) 1 then gi fM 20 (l - 1) else if gi fM 7 n = 4 ∨ gi fM 7 n = 3 ∧ l ≠ 0 ∧ gi fM 19 (l - 1) = 1 then (if gi fM 7 n = 4 then tyE fM l else gi fM 20 (l - 1)) else TYX fM lu k n
         (if gi fM 7 n = 3 ∧ l ≠ 0 ∧ (FO fM (l - 1) 1 ∨ gi fM 19 (l - 1) = 1) then [] else if gi fM 7 n = 4 then FLX k 1 n 0 else FLX k 0 n 0) ++ misT is (gi fM 20 f) tk)
      else if gi fM 24 f = 4 then FLX k 2 n 0
      else if gi fM 24 f = 0 then FLX k 4 n 0
      else if gi fM 7 n ≠ 3 then [(tk, 4)] ++ FLX k 4 n 0
      else notD l tk ++ (if l = 0 then [] else if (gi fM 19 (l - 1) = gi fM 24 f ∨ FO fM (l - 1) (gi fM 24 f)) ∧ (gi fM 24 f = 5 ∨ gi fM 20 (l - 1) = gi fM 20 f) then (if gi fM 24 f = 3 ∧ gi fM 19 (l - 1) = 3 ∧ ¬ gi fM 31 (nd fM 24 (l - 1)) ≤ 0 then [(tk, 5)] else []) else misS fM l tk))
end SP
