/-! FORMS that the first pass finds, pure -/
section FM
variable (kd : Nat → Nat)
/-- how many there are in a row -/
def cntR (f : Nat → Sum Nat Nat) : Nat → Nat → Nat
  | 0, _ => 0
  | n + 1, t => match f t with
    | .inl _ => 0
    | .inr e => if kd e = 40 then cntR f n (e + 1) + 1 else 1
/-- the form of a PRIMARY -/
def fmX (k d t : Nat) : Int32 := if kd t = 43 then 4 else if kd t = 2 then (if kd (t + 1) = 43 then 6 else if kd (t + 1) = 45 then (if cntR kd (xw kd k (d + 1)) (9000 - (t + 2)) (t + 2) = 1 then 2 else 3) else 1) else 6
/-- the EXPRS of a row have what W says -/
def rowF (f : Nat → Sum Nat Nat) (W : Nat → Prop) : Nat → Nat → Prop
  | 0, _ => True
  | n + 1, t => W t ∧ ∀ e, f t = .inr e → kd e = 40 → rowF f W n (e + 1)
/-- what's in a PRIMARY's brackets has what W says -/
def inP (k : Nat) (W : Nat → Nat → Prop) (d t : Nat) : Prop := (kd t = 43 → W (d + 1) (t + 1)) ∧ (kd t = 2 → kd (t + 1) = 43 ∨ kd (t + 1) = 45 → rowF kd (xw kd k (d + 1)) (W (d + 1)) (9000 - (t + 2)) (t + 2))
/-- a simple EXPR at s has its form, and so have those in it -/
def fmS (k : Nat) (W : Nat → Nat → Prop) (w : Wd) (d s : Nat) : Prop := ∀ r, rd kd (xp kd k) 9 d s = .inr r → gi w 10 s = Int32.ofNat r.1 ∧ gi w 8 s = (if r.2 = [(0, s, d)] then fmX kd k d s else 6) ∧ (gi w 9 s ≠ 0 ↔ (gi w 8 s = 1 ∨ gi w 8 s = 2 ∨ gi w 8 s = 4 ∧ gi w 9 (s + 1) ≠ 0)) ∧ ∀ x ∈ r.2, x.1 = 0 → inP kd k W x.2.2 x.2.1
/-- an EXPR at s has its form, and so have those in it -/
def fmW (w : Wd) : Nat → Nat → Nat → Prop
  | 0, _, _ => True
  | k + 1, d, s => (kd s ≠ 15 → fmS kd k (fmW w k) w d s) ∧ (kd s = 15 → ∀ e1 e2 e, xw kd k (d + 1) (s + 1) = .inr e1 → smX kd (xp kd k) (d + 1) (e1 + 1) = .inr e2 → xw kd k (d + 1) (e2 + 1) = .inr e → fmW w k (d + 1) (s + 1) ∧ fmS kd k (fmW w k) w (d + 1) (e1 + 1) ∧ fmW w k (d + 1) (e2 + 1) ∧ gi w 8 s = 5 ∧ gi w 10 s = Int32.ofNat e ∧ (gi w 9 s ≠ 0 ↔ gi w 9 (e1 + 1) ≠ 0 ∧ gi w 9 (e2 + 1) ≠ 0))
end FM
