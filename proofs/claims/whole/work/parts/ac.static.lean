/-! WHAT A PROGRAM IS, told of the tables as they stay: STATEMENTS and DECLS by TOKENS, nodes, symbols, SCOPES, slots -/
section ST
variable (kd : Nat → Nat) (fA fM : Wd)
/-- a chain of nodes, each with what W says of it, its TOKENS from s on, sign c between; C: nodes so far -/
def CHNW (c : Nat) (W : Nat → Nat → Nat → Nat → Nat → Prop) : List Nat → Nat → Nat → Nat → Nat → Prop
  | [], _, _, _, _ => False
  | x :: r, lo, s, e, lo' => match r with
    | [] => W lo x s e lo' ∧ gi fM 11 x = -1
    | y :: _ => ∃ e1 l1, W lo x s e1 l1 ∧ kd e1 = c ∧ gi fM 11 x = Int32.ofNat y ∧ CHNW c W r l1 (e1 + 1) e lo'
/-- LABELS before a STATEMENT -/
def LBS (n s j i0 : Nat) : Prop := gi fM 44 n = (if j = 0 then -1 else Int32.ofNat (i0 + j - 1)) ∧ ∀ i, i < j → kd (s + 2 * i) = 2 ∧ kd (s + 2 * i + 1) = 42 ∧ gi fM 43 (i0 + i) = (if i = 0 then -1 else Int32.ofNat (i0 + i - 1)) ∧ gi fM 19 (i0 + i) = 4 ∧ gi fM 22 (i0 + i) = Int32.ofNat (s + 2 * i)
/-- NAMES declared in a row: tokens s, s + 2 .., symbols i0 .. -/
def NMS (s j i0 : Nat) : Prop := ∀ i, i < j → kd (s + 2 * i) = 2 ∧ (i + 1 < j → kd (s + 2 * i + 1) = 40) ∧ gi fM 22 (i0 + i) = Int32.ofNat (s + 2 * i)
/-- symbols i0 .. i0 + j - 1 are procedure p's, in SCOPE s -/
def DCN (fA fM : Wd) (i0 j s p : Nat) : Prop := ∀ i, i < j → DC1 fA fM (i0 + i) s p
/-- counters with some more -/
def upD (C : Nat → Nat) (i v : Nat) : Nat → Nat := upC C i (C i + v)
abbrev CV : Type := Nat → Nat
/-- bounds: PAIRS of EXPRS, their nodes in a chain -/
def PRSX (sc : Int32) (d : Nat) : List Nat → Nat → Nat → Nat → Nat → Prop
  | [], _, _, _, _ => False
  | [_], _, _, _, _ => False
  | x :: y :: r, lo, s, e, lo' => ∃ e1 e2 c1 c2, XPR kd sc lo x d s e1 c1 fA fM ∧ kd e1 = 42 ∧ XPR kd sc (x + 1) y d (e1 + 1) e2 c2 fA fM ∧ gi fM 11 x = Int32.ofNat y ∧ (match r with
    | [] => e = e2 ∧ lo' = y + 1 ∧ gi fM 11 y = -1
    | v :: _ => kd e2 = 40 ∧ gi fM 11 y = Int32.ofNat v ∧ PRSX sc d r (y + 1) (e2 + 1) e lo')
/-- targets behind the first: EXPRS, each with := behind; then the EXPR -/
def TGS (sc : Int32) (d : Nat) : List Nat → Nat → Nat → Nat → Nat → Prop
  | [], _, _, _, _ => False
  | x :: r, lo, y, s, e => match r with
    | [] => ∃ cn, XPR kd sc lo y d s e cn fA fM ∧ gi fM 11 x = -1
    | v :: _ => ∃ e1 cn, XPR kd sc lo v d s e1 cn fA fM ∧ (gi fM 7 v = 3 ∨ gi fM 7 v = 4) ∧ kd e1 = 50 ∧ gi fM 11 x = Int32.ofNat v ∧ TGS sc d r (v + 1) y (e1 + 1) e
/-- the ELEMENTS of a for: C0: nodes -/
def ELT (sc : Int32) (d : Nat) (tk : Nat) (lo n s e lo' : Nat) : Prop := lo' = n + 1 ∧ gi fM 12 n = Int32.ofNat tk ∧ ∃ x e1 c1, gi fM 8 n = Int32.ofNat x ∧ XPR kd sc lo x d s e1 c1 fA fM ∧
  ((gi fM 7 n = 30 ∧ n = x + 1 ∧ e = e1 ∧ kd e1 ≠ 20 ∧ kd e1 ≠ 22) ∨ (gi fM 7 n = 32 ∧ kd e1 = 22 ∧ ∃ y c2, gi fM 9 n = Int32.ofNat y ∧ n = y + 1 ∧ XPR kd sc (x + 1) y d (e1 + 1) e c2 fA fM)
  ∨ (gi fM 7 n = 31 ∧ kd e1 = 20 ∧ ∃ y v e2 c2 c3, gi fM 9 n = Int32.ofNat y ∧ gi fM 10 n = Int32.ofNat v ∧ n = v + 1 ∧ XPR kd sc (x + 1) y d (e1 + 1) e2 c2 fA fM ∧ kd e2 = 21 ∧ XPR kd sc (y + 1) v d (e2 + 1) e c3 fA fM))
/-- what a STATEMENT is: d: DEPTH, s e: TOKENS, n: node, q q': the reference's slots, C C': counters before and behind -/
abbrev PSTT : Type := Nat → Nat → Nat → Nat → List Nat → PRL → Nat → Nat → CV → CV → Prop
/-- a STATEMENT in a SCOPE of its own -/
def INS9 (W : PSTT) (d s e n : Nat) (stk : List Nat) (prs : PRL) (q q' : Nat) (C C' : CV) : Prop := gi fM 14 (C 2) = hdM stk ∧ gi fM 17 (C 2) = -1 ∧ gi fM 15 (C 2) = Int32.ofNat (prs.headD (0, 0, 0)).1 ∧ W d s e n (C 2 :: stk) prs q q' (upD C 2 1) C'
/-- STATEMENTS of a BLOCK -/
def STSX (W : PSTT) (d : Nat) (stk : List Nat) (p sg : Nat) (r : PRL) : List Nat → Nat → Nat → Nat → Nat → CV → CV → Prop
  | [], _, _, _, _, _, _ => False
  | x :: xr, s, e, q, q', C, C' => match xr with
    | [] => W d s e x stk ((p, sg, q) :: r) q q' C C' ∧ gi fM 11 x = -1 ∧ kd e ≠ 41
    | y :: _ => ∃ e1 q1 C1, W d s e1 x stk ((p, sg, q) :: r) q q1 C C1 ∧ kd e1 = 41 ∧ gi fM 11 x = Int32.ofNat y ∧ STSX W d stk p sg r xr (e1 + 1) e q1 q' C1 C'
/-- one DECL: sg sg': the class's slots; an: its node if it is one of ARRAYS -/
def DCLX (W : PSTT) (d : Nat) (stk : List Nat) (out : Int32) (p : Nat) (r : PRL) (s e sg sg' q q' : Nat) (an : Option Nat) (C C' : CV) : Prop :=
  -- VARIABLES
  (∃ s1 j ty own, (own = 1 ∧ kd s = 6 ∧ s1 = s + 2 ∨ own = 0 ∧ s1 = s + 1) ∧ kd (s1 - 1) = 6 + ty ∧ 1 ≤ ty ∧ ty ≤ 2 ∧ 1 ≤ j ∧ NMS kd fM s1 j (C 1) ∧ e = s1 + 2 * j - 1 ∧ an = none ∧ (∀ i, i < j → gi fM 19 (C 1 + i) = 1 ∧ gi fM 20 (C 1 + i) = Int32.ofNat ty ∧ gi fM 27 (C 1 + i) = Int32.ofNat own ∧ (own = 0 → gi fA 18 (C 1 + i + 1) = Int32.ofNat (sg + i) ∧ gi fM 26 (C 1 + i) = Int32.ofNat (q + i)) ∧ (own = 1 → gi fM 26 (C 1 + i) = Int32.ofNat (C 5 + i))) ∧ DCN fA fM (C 1) j (stk.headD 0) p ∧ (own = 0 → sg' = sg + j ∧ q' = q + j ∧ C' = upD C 1 j) ∧ (own = 1 → sg' = sg ∧ q' = q ∧ C' = upD (upD C 1 j) 5 j))
  -- ARRAYS
  ∨ (∃ s1 ty j n xs e1 b, (kd s = 9 ∧ s1 = s + 1 ∧ ty = 1 ∨ kd s = 6 + ty ∧ 1 ≤ ty ∧ ty ≤ 2 ∧ kd (s + 1) = 9 ∧ s1 = s + 2) ∧ 1 ≤ j ∧ NMS kd fM s1 j (C 1) ∧ kd (s1 + 2 * j - 1) = 45 ∧ n = C 0 ∧ an = some n ∧ gi fM 7 n = 40 ∧ gi fM 8 n = Int32.ofNat (C 1) ∧ gi fM 9 n = Int32.ofNat (C 1 + j) ∧ gi fM 10 n = Int32.ofNat (xs.headD 0) ∧ d ≤ 39 ∧ xs.length = 2 * b ∧ 1 ≤ b ∧ b ≤ 3 ∧ PRSX kd fA fM out (d + 1) xs (n + 1) (s1 + 2 * j) e1 (C' 0) ∧ kd e1 = 46 ∧ e = e1 + 1 ∧ (∀ i, i < j → gi fM 19 (C 1 + i) = 2 ∧ gi fM 20 (C 1 + i) = Int32.ofNat ty ∧ gi fM 24 (C 1 + i) = Int32.ofNat b ∧ gi fA 18 (C 1 + i + 1) = Int32.ofNat (sg + i * (2 + 2 * b)) ∧ gi fM 26 (C 1 + i) = Int32.ofNat (q + i * 8)) ∧ DCN fA fM (C 1) j (stk.headD 0) p ∧ sg' = sg + j * (2 + 2 * b) ∧ q' = q + j * 8 ∧ C' = upC (upD C 1 j) 0 (C' 0))
  -- a switch
  ∨ (kd s = 13 ∧ NMS kd fM (s + 1) 1 (C 1) ∧ kd (s + 2) = 50 ∧ gi fM 19 (C 1) = 5 ∧ an = none ∧ DC1 fA fM (C 1) (stk.headD 0) p ∧ (∃ xs, gi fM 25 (C 1) = Int32.ofNat (xs.headD 0) ∧ CHNW kd fM 40 (fun lo x s e lo' => XAM kd (hdM stk) lo x d s e fA fM ∧ lo' = x + 1) xs (C 0) (s + 3) e (C' 0)) ∧ kd e ≠ 40 ∧ sg' = sg ∧ q' = q ∧ C' = upC (upD C 1 1) 0 (C' 0))
  -- a procedure: W0 the words of its formals, sb where its STATEMENT begins
  ∨ (∃ s1 ty pn nf W0 sb nb q1, (kd s = 10 ∧ s1 = s + 1 ∧ ty = 0 ∨ kd s = 6 + ty ∧ 1 ≤ ty ∧ ty ≤ 2 ∧ kd (s + 1) = 10 ∧ s1 = s + 2) ∧ kd s1 = 2 ∧ gi fM 22 (C 1) = Int32.ofNat s1 ∧ gi fM 19 (C 1) = 3 ∧ gi fM 20 (C 1) = Int32.ofNat ty ∧ d ≤ 39 ∧ pn = C 4 ∧ gi fM 24 (C 1) = Int32.ofNat pn ∧ gi fM 29 pn = Int32.ofNat (C 1) ∧ gi fM 30 pn = Int32.ofNat (r.length + 1) ∧ gi fM 37 pn = Int32.ofNat p ∧ gi fM 31 pn = Int32.ofNat nf ∧ gi fM 32 pn = Int32.ofNat (C 1 + 1) ∧ gi fM 33 pn = Int32.ofNat nb ∧ gi fA 24 (C 1 + 1) = Int32.ofNat sb ∧ gi fA 18 (C 1 + 1) = Int32.ofNat W0 ∧ s1 + 1 + 2 * nf < sb ∧ an = none ∧ DC1 fA fM (C 1) (stk.headD 0) p ∧ DCN fA fM (C 1 + 1) nf (C 2) pn ∧
      (∀ i, i < nf → gi fM 19 (C 1 + 1 + i) = 6 ∧ gi fM 26 (C 1 + 1 + i) = Int32.ofNat (1 + 2 * i) ∧ (∃ tk, tk < sb ∧ gi fM 22 (C 1 + 1 + i) = Int32.ofNat tk) ∧ ∃ o w, (w = 1 ∨ w = 2) ∧ gi fA 18 (C 1 + 1 + i + 1) = Int32.ofNat (6 + o) ∧ (w = 1 ↔ gi fM 28 (C 1 + 1 + i) = 1 ∨ gi fM 24 (C 1 + 1 + i) = 2) ∧ o + w ≤ W0 ∧ (∀ i', i < i' → i' < nf → ∀ o', gi fA 18 (C 1 + 1 + i' + 1) = Int32.ofNat (6 + o') → o' < 100000 → o + w ≤ o')) ∧
      gi fM 14 (C 2) = hdM stk ∧ gi fM 17 (C 2) = -1 ∧ gi fM 14 (C 2 + 1) = Int32.ofNat (C 2) ∧ gi fM 17 (C 2 + 1) = -1 ∧ gi fM 15 (C 2) = Int32.ofNat pn ∧ gi fM 15 (C 2 + 1) = Int32.ofNat pn ∧
      W (d + 1) sb e nb ((C 2 + 1) :: C 2 :: stk) ((pn, 6 + W0, 1 + 2 * nf) :: (p, sg, q) :: r) (1 + 2 * nf) q1 (upD (upD (upD (upD C 1 (1 + nf)) 2 2) 4 1) 6 1) C' ∧ sg' = sg ∧ q' = q ∧ GE35 fM pn (1 + 2 * nf) ∧ gi fM 35 pn = Int32.ofNat q1 ∧ ∃ f : Nat → Nat, f 0 = 0 ∧ f nf = W0 ∧ ∀ i, i < nf → ∃ w, (w = 1 ∨ w = 2) ∧ f (i + 1) = f i + w ∧ gi fA 18 (C 1 + 1 + i + 1) = Int32.ofNat (6 + f i) ∧ (w = 1 ↔ gi fM 28 (C 1 + 1 + i) = 1 ∨ gi fM 24 (C 1 + 1 + i) = 2))
/-- DECLS, each with ; behind; an: the nodes of ARRAYS -/
def DCSX (W : PSTT) (d : Nat) (stk : List Nat) (out : Int32) (p : Nat) (r : PRL) : Nat → Nat → Nat → Nat → Nat → Nat → Nat → List Nat → CV → CV → Prop
  | 0, s, e, sg, sg', q, q', al, C, C' => e = s ∧ sg' = sg ∧ q' = q ∧ al = [] ∧ C' = C ∧ ¬ (kd s = 6 ∨ kd s = 7 ∨ kd s = 8 ∨ kd s = 9 ∨ kd s = 10 ∨ kd s = 13)
  | j + 1, s, e, sg, sg', q, q', al, C, C' => ∃ e1 sg1 q1 C1 an al1, DCLX kd fA fM W d stk out p r s e1 sg sg1 q q1 an C C1 ∧ kd e1 = 41 ∧ (al = match an with | none => al1 | some x => x :: al1) ∧ (∀ x y l, an = some x → al1 = y :: l → gi fM 11 x = Int32.ofNat y) ∧ (∀ x, an = some x → al1 = [] → gi fM 11 x = -1) ∧ DCSX W d stk out p r j (e1 + 1) e sg1 sg' q1 q' al1 C1 C'
/-- a BLOCK -/
def BLKX (W : PSTT) (d s e n : Nat) (stk : List Nat) (prs : PRL) (q q' : Nat) (C C' : CV) : Prop := ∃ p sg q0 r, prs = (p, sg, q0) :: r ∧ n = C 0 ∧ kd s = 4 ∧ gi fM 7 n = 27 ∧ gi fM 8 n = Int32.ofNat (C 3) ∧ gi fM 41 (C 3) = Int32.ofNat q ∧ gi fM 42 (C 3) = Int32.ofNat (C 2) ∧ gi fM 17 (C 2) = Int32.ofNat (C 3) ∧ gi fM 15 (C 2) = Int32.ofNat p ∧ gi fM 14 (C 2) = hdM stk ∧
  ∃ jd s1 sg1 q1 al C1 xs e1, gi fM 40 (C 3) = (match al with | [] => -1 | x :: _ => Int32.ofNat x) ∧ gi fM 39 (C 3) = Int32.ofNat (xs.headD 0) ∧ gi fA 33 (C 2 + 1) = Int32.ofNat (sg1 - sg) ∧ sg + 1 ≤ sg1 ∧ DCSX kd fA fM W (d + 1) (C 2 :: stk) (hdM stk) p r jd (s + 1) s1 (sg + 1) sg1 (q + 2) q1 al (upD (upD (upD C 0 1) 2 1) 3 1) C1 ∧ STSX kd fM W (d + 1) (C 2 :: stk) p sg1 r xs s1 e1 q1 q' C1 C' ∧ kd e1 = 5 ∧ e = e1 + 1 ∧ (d + 1 ≤ 40 ∨ kd (s + 1) = 5) ∧ GE35 fM p q1
/-- a STATEMENT without its LABELS -/
def PLNX (W : PSTT) (d s e n : Nat) (stk : List Nat) (prs : PRL) (q q' : Nat) (C C' : CV) : Prop := ∃ p sg q0 r, prs = (p, sg, q0) :: r ∧
  ((kd s = 2 ∧ kd (s + 1) ≠ 50 ∧ kd (s + 1) ≠ 45 ∧ gi fM 7 n = 22 ∧ ∃ x, gi fM 8 n = Int32.ofNat x ∧ n = x + 1 ∧ CLC kd (hdM stk) (C 0) x d s e fA fM ∧ q' = q ∧ C' = upC C 0 (n + 1))
  ∨ (kd s = 2 ∧ (kd (s + 1) = 50 ∨ kd (s + 1) = 45) ∧ gi fM 7 n = 21 ∧ ∃ x xs y e1, gi fM 8 n = Int32.ofNat x ∧ gi fM 9 n = Int32.ofNat y ∧ n = y + 1 ∧ PLC kd (hdM stk) (C 0) x d s e1 fA fM ∧ kd e1 = 50 ∧ TGS kd fA fM (hdM stk) d (x :: xs) (x + 1) y (e1 + 1) e ∧ q' = q ∧ ∃ c7, C' = upC (upC C 0 (n + 1)) 7 c7 ∧ (xs.length ≤ 19 ∧ c7 = C 7 ∨ 20 ≤ xs.length ∧ ∃ tk, gi fM 12 (xs.getD 19 0) = Int32.ofNat tk ∧ tk < 8194 ∧ c7 = if C 7 = 0 then tk + 1 else C 7))
  ∨ (kd s = 32 ∧ kd (s + 1) = 43 ∧ d ≤ 39 ∧ gi fM 7 n = 23 ∧ ∃ x e1 cn, gi fM 8 n = Int32.ofNat x ∧ n = x + 1 ∧ XPR kd (hdM stk) (C 0) x (d + 1) (s + 2) e1 cn fA fM ∧ kd e1 = 44 ∧ e = e1 + 1 ∧ q' = q ∧ C' = upC C 0 (n + 1))
  ∨ (kd s = 14 ∧ gi fM 7 n = 24 ∧ ∃ x, gi fM 8 n = Int32.ofNat x ∧ n = x + 1 ∧ XAM kd (hdM stk) (C 0) x d (s + 1) e fA fM ∧ q' = q ∧ C' = upC C 0 (n + 1))
  ∨ (kd s = 15 ∧ d ≤ 39 ∧ gi fM 7 n = 25 ∧ ∃ x y e1 e2 cn q1 C1, gi fM 8 n = Int32.ofNat x ∧ gi fM 9 n = Int32.ofNat y ∧ XPR kd (hdM stk) (C 0) x (d + 1) (s + 1) e1 cn fA fM ∧ kd e1 = 16 ∧ INS9 fM W (d + 1) (e1 + 1) e2 y stk ((p, sg, q) :: r) q q1 (upC C 0 (x + 1)) C1 ∧
      ((kd e2 ≠ 17 ∧ gi fM 10 n = -1 ∧ e = e2 ∧ q' = q1 ∧ n = C1 0 ∧ C' = upC C1 0 (n + 1)) ∨ (kd e2 = 17 ∧ ∃ v C2, gi fM 10 n = Int32.ofNat v ∧ INS9 fM W (d + 1) (e2 + 1) e v stk ((p, sg, q1) :: r) q1 q' C1 C2 ∧ n = C2 0 ∧ C' = upC C2 0 (n + 1))))
  ∨ (kd s = 18 ∧ d ≤ 39 ∧ gi fM 7 n = 26 ∧ ∃ x xs y e1 e2 lo C1, gi fM 8 n = Int32.ofNat x ∧ gi fM 9 n = Int32.ofNat (xs.headD 0) ∧ gi fM 10 n = Int32.ofNat y ∧ PLC kd (hdM stk) (C 0) x (d + 1) (s + 1) e1 fA fM ∧ kd e1 = 50 ∧ CHNW kd fM 40 (ELT kd fA fM (hdM stk) (d + 1) s) xs (x + 1) (e1 + 1) e2 lo ∧ kd e2 = 19 ∧ INS9 fM W (d + 1) (e2 + 1) e y stk ((p, sg + 1, q) :: r) q q' (upC C 0 lo) C1 ∧ n = C1 0 ∧ C' = upC C1 0 (n + 1))
  ∨ BLKX kd fA fM W d s e n stk prs q q' C C'
  ∨ (¬ (kd s = 2 ∨ kd s = 4 ∨ kd s = 14 ∨ kd s = 15 ∨ kd s = 18 ∨ kd s = 32) ∧ gi fM 7 n = 20 ∧ e = s ∧ n = C 0 ∧ q' = q ∧ C' = upC C 0 (n + 1)))
/-- a STATEMENT -/
def PSTX : Nat → PSTT
  | 0, _, _, _, _, _, _, _, _, _, _ => False
  | k + 1, d, s, e, n, stk, prs, q, q', C, C' => (∃ j, LBS kd fM n s j (C 1) ∧ DCN fA fM (C 1) j (stk.headD 0) (prs.headD (0, 0, 0)).1 ∧ ¬ (kd (s + 2 * j) = 2 ∧ kd (s + 2 * j + 1) = 42) ∧ PLNX kd fA fM (PSTX k) d (s + 2 * j) e n stk prs q q' (upD C 1 j) C') ∧ s ≤ e ∧ LEC C C' ∧ C 0 ≤ n ∧ n < C' 0
end ST
