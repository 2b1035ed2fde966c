/-! PASS 2, pure: the reference's codes of a node -/
section CD
variable (fM : Wd) (lu : Nat → Nat) (lev : Nat)
/-- codes of nodes in a row -/
def rwM (W : Nat → Nat → Nat → Nat → Prop) : List Nat → Nat → Nat → Nat → Prop
  | [], _, b, b' => b' = b
  | x :: r, i, b, b' => ∃ b1, W x i b b1 ∧ rwM W r (i + 1) b1 b'
/-- the code of a place: l: what the NAME is; f: 0 if a procedure may be set -/
def cdL (l : Nat) (b b' : Nat) (g : Wd) : Prop :=
  (gi fM 19 (l - 1) = 1 ∧ opW g b 3 (if gi fM 27 (l - 1) = 0 then upI fM lev (l - 1) else -1) (gi fM 26 (l - 1)) 0 ∧ b' = b + 1)
  ∨ (FO fM (l - 1) 1 ∧ gi fM 28 (l - 1) ≠ 0 ∧ opW g b 3 (upI fM lev (l - 1)) (gi fM 26 (l - 1)) 0 ∧ b' = b + 1)
  ∨ (FO fM (l - 1) 1 ∧ gi fM 28 (l - 1) = 0 ∧ opW g b 4 (upI fM lev (l - 1)) (gi fM 26 (l - 1)) 1 ∧ b' = b + 1)
  ∨ (gi fM 19 (l - 1) = 3 ∧ opW g b 3 (Int32.ofNat lev - gi fM 30 (nd fM 24 (l - 1))) 0 0 ∧ b' = b + 1)
  ∨ (FO fM (l - 1) 0 ∧ b' = b)
/-- the code of an ARRAY's ELEMENT, behind its indices -/
def cdE (l n : Nat) (b b' : Nat) (g : Wd) : Prop :=
  (gi fM 19 (l - 1) = 2 ∧ opW g b 5 (upI fM lev (l - 1)) (gi fM 26 (l - 1)) (gi fM 9 n) ∧ b' = b + 1)
  ∨ (FO fM (l - 1) 2 ∧ opW g b 5 (upI fM lev (l - 1)) (-1 - gi fM 26 (l - 1)) (gi fM 9 n) ∧ b' = b + 1)
  ∨ (FO fM (l - 1) 0 ∧ b' = b)
/-- codes from b to b' (modes as FLX has them), without faults; ac: where an ACTUAL is noted -/
def CDM : Nat → Nat → Nat → Nat → Nat → Nat → Nat → Wd → Prop
  | 0, _, _, _, _, _, _, _ => False
  | k + 1, md, n, f, ac, b, b', g =>
    let l := lu (nd fM 12 n)
    let el : Nat → Nat → Prop := fun b b' => ∃ b1, rwM (fun x _ b b' => CDM k 0 x 0 0 b b' g) (nxL fM k (gi fM 8 n)) 0 b b1 ∧ cdE fM lev l n b1 b' g
    if md = 0 then
      (if gi fM 7 n = 1 then opW g b 1 (gi fM 12 n) 0 0 ∧ b' = b + 1
      else if gi fM 7 n = 2 then opW g b 1 (-1) (gi fM 8 n) 0 ∧ b' = b + 1
      else if gi fM 7 n = 9 then CDM k 0 (nd fM 8 n) 0 0 b b' g
      else if gi fM 7 n = 3 then cdY fM lev l b b' g
      else if gi fM 7 n = 4 then ∃ b1, el b b1 ∧ opW g b1 6 0 0 0 ∧ b' = b1 + 1
      else if gi fM 7 n = 5 then (FO fM (l - 1) 0 ∧ rwM (fun x _ b b' => CDM k 4 x 0 0 b b' g) (nxL fM k (gi fM 8 n)) 0 b b')
        ∨ (gi fM 19 (l - 1) = 3 ∧ ∃ s a0 b1, s < 4300 ∧ a0 + nd fM 9 n ≤ 6000 ∧ rwM (fun x i b b' => CDM k 5 x (nd fM 32 (nd fM 24 (l - 1)) + i) (a0 + i) b b' g) (nxL fM k (gi fM 8 n)) 0 b b1 ∧ opW g b1 14 (Int32.ofNat s) (if f = 0 then 1 else 0) 0 ∧ b' = b1 + 1 ∧ gi g 49 s = gi fM 24 (l - 1) ∧ gi g 50 s = upI fM lev (l - 1) ∧ gi g 51 s = Int32.ofNat a0)
      else if gi fM 7 n = 8 then ∃ b1 b2, CDM k 0 (nd fM 8 n) 0 0 b b1 g ∧ opW g b1 11 (Int32.ofNat (b2 + 1)) 0 0 ∧ CDM k 0 (nd fM 9 n) 0 0 (b1 + 1) b2 g ∧ opW g b2 10 (Int32.ofNat b') 0 0 ∧ CDM k 0 (nd fM 10 n) 0 0 (b2 + 1) b' g
      else if gi fM 7 n = 7 then (gi fM 9 n = 43 ∧ CDM k 0 (nd fM 8 n) 0 0 b b' g) ∨ (gi fM 9 n ≠ 43 ∧ ∃ b1, CDM k 0 (nd fM 8 n) 0 0 b b1 g ∧ opW g b1 9 (gi fM 9 n) 0 0 ∧ b' = b1 + 1)
      else ∃ b1 b2, CDM k 0 (nd fM 8 n) 0 0 b b1 g ∧ CDM k 0 (nd fM 10 n) 0 0 b1 b2 g ∧ opW g b2 8 (gi fM 9 n) 0 0 ∧ b' = b2 + 1)
    else if md = 1 then (if gi fM 7 n = 4 then el b b' else cdL fM lev l b b' g)
    else if md = 2 then
      (if gi fM 7 n = 9 then CDM k 2 (nd fM 8 n) 0 0 b b' g
      else if gi fM 7 n = 8 then ∃ b1 b2, CDM k 0 (nd fM 8 n) 0 0 b b1 g ∧ opW g b1 11 (Int32.ofNat (b2 + 1)) 0 0 ∧ CDM k 2 (nd fM 9 n) 0 0 (b1 + 1) b2 g ∧ opW g b2 10 (Int32.ofNat b') 0 0 ∧ CDM k 2 (nd fM 10 n) 0 0 (b2 + 1) b' g
      else if gi fM 7 n = 3 then (gi fM 19 (l - 1) = 4 ∧ opW g b 20 (Int32.ofNat (l - 1)) (upI fM lev (l - 1)) 0 ∧ b' = b + 1) ∨ (FO fM (l - 1) 4 ∧ opW g b 22 (upI fM lev (l - 1)) (gi fM 26 (l - 1)) 0 ∧ b' = b + 1) ∨ (FO fM (l - 1) 0 ∧ b' = b)
      else ∃ b1, CDM k 0 (nd fM 8 n) 0 0 b b1 g ∧ ((gi fM 19 (l - 1) = 5 ∧ opW g b1 21 (upI fM lev (l - 1)) (Int32.ofNat (l - 1)) 0 ∧ b' = b1 + 1) ∨ (FO fM (l - 1) 5 ∧ opW g b1 21 (upI fM lev (l - 1)) (-1 - gi fM 26 (l - 1)) 0 ∧ b' = b1 + 1) ∨ (FO fM (l - 1) 0 ∧ b' = b1)))
    else if md = 5 then
      (if gi fM 24 f = 1 then
        gi g 52 ac = 1 ∧ opW g b 10 (Int32.ofNat b') 0 0 ∧ ∃ th b1, th < 6000 ∧ gi g 53 ac = Int32.ofNat th ∧ gi g 47 th = Int32.ofNat (b + 1) ∧ b' = b1 + 1 ∧
          (if gi fM 7 n = 4 ∨ gi fM 7 n = 3 ∧ (gi fM 19 (l - 1) = 1 ∨ FO fM (l - 1) 1 ∧ gi fM 28 (l - 1) ≠ 0) then gi g 48 th = 1 ∧ CDM k 1 n 0 0 (b + 1) b1 g ∧ opW g b1 17 1 0 0
          else if gi fM 7 n = 3 ∧ FO fM (l - 1) 1 then gi g 48 th = 2 ∧ opW g (b + 1) 4 (upI fM lev (l - 1)) (gi fM 26 (l - 1)) 2 ∧ b1 = b + 2 ∧ opW g b1 17 0 0 0
          else gi g 48 th = 0 ∧ CDM k 0 n 0 0 (b + 1) b1 g ∧ opW g b1 17 0 0 0)
      else if gi fM 24 f = 4 then
        gi g 52 ac = 4 ∧ opW g b 10 (Int32.ofNat b') 0 0 ∧ ∃ th b1, th < 6000 ∧ gi g 53 ac = Int32.ofNat th ∧ gi g 47 th = Int32.ofNat (b + 1) ∧ gi g 48 th = 0 ∧ b' = b1 + 1 ∧ CDM k 2 n 0 0 (b + 1) b1 g ∧ opW g b1 17 0 0 0
      else if gi fM 24 f = 0 then True
      else b' = b ∧ (FO fM (l - 1) 0 ∨ gi g 53 ac = upI fM lev (l - 1) ∧ (FO fM (l - 1) (gi fM 24 f) ∧ gi g 52 ac = 10 ∧ gi g 54 ac = gi fM 26 (l - 1)
        ∨ gi fM 19 (l - 1) = gi fM 24 f ∧ gi fM 19 (l - 1) ≠ 6 ∧ gi g 52 ac = gi fM 24 f ∧ gi g 54 ac = (if gi fM 24 f = 3 then gi fM 24 (l - 1) else if gi fM 24 f = 5 then Int32.ofNat (l - 1) else gi fM 26 (l - 1)))))
    else True
theorem rwM.im {W V : Nat → Nat → Nat → Nat → Prop} : ∀ (xs : List Nat) (i b b' : Nat), (∀ x ∈ xs, ∀ i b b', W x i b b' → V x i b b') → rwM W xs i b b' → rwM V xs i b b' := by
  intro xs
  induction xs with
  | nil => exact fun _ _ _ _ h => h
  | cons x r ih =>
    intro i b b' hW h
    obtain ⟨b1, h1, h2⟩ := h
    exact ⟨b1, hW x List.mem_cons_self _ _ _ h1, ih _ _ _ (fun y hy => hW y (List.mem_cons_of_mem _ hy)) h2⟩
end CD
