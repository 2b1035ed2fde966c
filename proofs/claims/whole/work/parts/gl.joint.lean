/-! BOTH MACHINES AT ONE PLACE: what's known of them -/
section JD
/-- what stays for the whole RUN: worlds (0 the class's code, 1 the reference's, 2 and 3 the tables, 4 and 5 those at the start), numbers (0 p: a procedure's head; 1 p: words of its frame; 2 p: words of its formals; 3 p: its slots; 4 s: where a BLOCK's frame keeps its ELEMENTS; 5: words of code, own VARIABLES, symbols, procedures, most words done, STEPS allowed, SCOPES, most slots), lists (0 s: a SCOPE's symbols; 1 p: the SCOPES where p is declared), names -/
abbrev SENV : Type := (Nat → Wd) × (Nat → Nat → Nat) × (Nat → Nat → List Nat) × (Nat → Nat) × (Nat → Nat)
abbrev vA (E : SENV) : Wd := E.1 2
abbrev vM (E : SENV) : Wd := E.1 3
abbrev cA (E : SENV) : Wd := E.1 0
abbrev dM (E : SENV) : Wd := E.1 1
abbrev eNo (E : SENV) (k j : Nat) : Nat := E.2.1 k j
abbrev eSL (E : SENV) (s : Nat) : List Nat := E.2.2.1 0 s
abbrev eDS (E : SENV) (p : Nat) : List Nat := E.2.2.1 1 p
abbrev eLU (E : SENV) (stk : List Nat) : Nat → Nat := luN E.2.2.2.1 E.2.2.2.2 (E.2.2.1 0) stk
/-- the level of a procedure -/
abbrev eLV (E : SENV) (p : Nat) : Nat := nd (vM E) 30 p
/-- the slots of a symbol -/
abbrev sA (E : SENV) (y : Nat) : Nat := nd (vA E) 18 (y + 1)
abbrev sM (E : SENV) (y : Nat) : Nat := nd (vM E) 26 y
/-- an activation: numbers (0 procedure, 1 frame, 2 its base in memory, 3 which it is declared in, 4 depth, 5 height, 6 pile, 7 controls, 8 ELEMENTS at its start, 10: its frame is there; 100 + s: the ELEMENTS when SCOPE s's ARRAYS stand), its SCOPES (with those round it), the worlds at its start, words done beyond those paid for -/
abbrev ACT : Type := (Nat → Nat) × List Nat × Wd × Wd × Int
abbrev aP (A : ACT) : Nat := A.1 0
abbrev aF (A : ACT) : Nat := A.1 1
abbrev aB (A : ACT) : Nat := A.1 2
abbrev aK (A : ACT) : List Nat := A.2.1
abbrev aX (A : ACT) : Int := A.2.2.2.2
def aOn (A : ACT) : Prop := A.1 10 = 1
/-- bounds multiplied -/
def PRZ (lo hi : Nat → Int64) : Nat → Int
  | 0 => 1
  | k + 1 => PRZ lo hi k * max ((hi k).toInt - (lo k).toInt + 1) 0
/-- where an ARRAY is told, and its ELEMENTS -/
def DESC (G : GHO) (x q : Nat) (ty : Int32) (nb : Nat) : Prop := ∃ base sz lo hi, G 1 x q 0 (Int64.ofNat nb) (Int64.ofNat nb) ∧ G 1 (x + 1) (q + 1) 0 (Int64.ofNat (4096 + base)) (Int64.ofNat base) ∧ (∀ k, k < nb → G 1 (x + 2 + 2 * k) (q + 2 + 2 * k) 0 (lo k) (lo k) ∧ G 1 (x + 3 + 2 * k) (q + 3 + 2 * k) 0 (hi k) (hi k) ∧ R36 (lo k) ∧ R36 (hi k)) ∧ (1 ≤ nb ∧ nb ≤ 3) ∧ PRZ lo hi nb = (sz : Int) ∧ base + sz ≤ 2000 ∧ ∀ t, base ≤ t → t < base + sz → G 0 (4096 + t) (1048576 + t) ty 0 0
/-- the SCOPE's words are those of the procedure -/
abbrev own (E : SENV) (s p : Nat) : Prop := gi (vM E) 15 s = Int32.ofNat p
/-- words of the stack that a node wants (modes as FLX) -/
def NDX (fM : Wd) : Nat → Nat → Nat → Nat
  | 0, _, _ => 0
  | k + 1, md, n =>
    let ix : Nat := (nxL fM k (gi fM 8 n)).foldl (fun m x => max m (4 + NDX fM k 0 x)) 3
    if md = 0 then
      (if gi fM 7 n = 1 ∨ gi fM 7 n = 2 then 1 else if gi fM 7 n = 9 then NDX fM k 0 (nd fM 8 n) else if gi fM 7 n = 3 then 2 else if gi fM 7 n = 4 then ix else if gi fM 7 n = 5 then 2
      else if gi fM 7 n = 8 then max (NDX fM k 0 (nd fM 8 n)) (max (NDX fM k 0 (nd fM 9 n)) (NDX fM k 0 (nd fM 10 n)))
      else if gi fM 7 n = 7 then NDX fM k 0 (nd fM 8 n) else max (NDX fM k 0 (nd fM 8 n)) (1 + NDX fM k 0 (nd fM 10 n)))
    else if md = 1 then (if gi fM 7 n = 4 then ix else 2)
    else
      (if gi fM 7 n = 9 then NDX fM k 2 (nd fM 8 n) else if gi fM 7 n = 8 then max (NDX fM k 0 (nd fM 8 n)) (max (NDX fM k 2 (nd fM 9 n)) (NDX fM k 2 (nd fM 10 n))) else if gi fM 7 n = 3 then 2 else max 3 (NDX fM k 0 (nd fM 8 n)))
/-- .. and that in each use within there is room -/
def OKN (fM : Wd) : Nat → Nat → Nat → Prop
  | 0, _, _ => True
  | k + 1, md, n =>
    let ix : Prop := gi fM 9 n = Int32.ofNat (nxL fM k (gi fM 8 n)).length ∧ (nxL fM k (gi fM 8 n)).length ≤ 5000 ∧ ∀ x ∈ nxL fM k (gi fM 8 n), OKN fM k 0 x
    if md = 0 then
      (if gi fM 7 n = 9 then OKN fM k 0 (nd fM 8 n) else if gi fM 7 n = 4 then ix
      else if gi fM 7 n = 5 then gi fM 9 n = Int32.ofNat (nxL fM k (gi fM 8 n)).length ∧ (nxL fM k (gi fM 8 n)).length ≤ 5000 ∧ ∀ x ∈ nxL fM k (gi fM 8 n), OKN fM k 5 x
      else if gi fM 7 n = 8 then OKN fM k 0 (nd fM 8 n) ∧ OKN fM k 0 (nd fM 9 n) ∧ OKN fM k 0 (nd fM 10 n)
      else if gi fM 7 n = 7 then OKN fM k 0 (nd fM 8 n) else if gi fM 7 n = 6 then OKN fM k 0 (nd fM 8 n) ∧ OKN fM k 0 (nd fM 10 n) else gi fM 7 n = 1 ∨ gi fM 7 n = 2 ∨ gi fM 7 n = 3)
    else if md = 1 then (if gi fM 7 n = 4 then ix else gi fM 7 n = 3)
    else if md = 5 then ∀ f, (gi fM 24 f = 1 → gi fM 28 f ≠ 0 → 20 + NDX fM k 0 n ≤ 502 ∧ OKN fM k 0 n) ∧ (gi fM 24 f = 1 → gi fM 28 f = 0 → OKN fM k 0 n ∧ NDX fM k 0 n ≤ 502 ∧ (gi fM 7 n = 3 ∨ gi fM 7 n = 4 → OKN fM k 1 n) ∧ NDX fM k 1 n ≤ 502) ∧ (gi fM 24 f = 4 → OKN fM k 0 n ∧ NDX fM k 0 n ≤ 502)
    else (if gi fM 7 n = 9 then OKN fM k 2 (nd fM 8 n) else if gi fM 7 n = 8 then OKN fM k 0 (nd fM 8 n) ∧ OKN fM k 2 (nd fM 9 n) ∧ OKN fM k 2 (nd fM 10 n) else if gi fM 7 n = 4 then OKN fM k 0 (nd fM 8 n) else gi fM 7 n = 3)
/-- a formal by name handed on: l its symbol -/
def usD (E : SENV) (l lev a b : Nat) (ty : Int32) : Prop := l ≠ 0 ∧ FO (vM E) (l - 1) 1 ∧ gi (vM E) 28 (l - 1) = 0 ∧ gi (vM E) 20 (l - 1) = ty ∧ gl (cA E) 41 a = wdC 21 (hpC (vA E) lev l) (gi (vA E) 18 l) ∧ opW (dM E) b 4 (upI (vM E) lev (l - 1)) (gi (vM E) 26 (l - 1)) 2
/-- an EXPR that's worked out each time: its codes; B: where it stands -/
def THV (E : SENV) (a t : Nat) (ty : Int32) (B : ACT) : Prop := ∃ (stk : List Nat) (K n b a1 b1 : Nat), (∀ s ∈ stk, s ∈ aK B) ∧ t < 6000 ∧ gi (dM E) 47 t = Int32.ofNat b ∧
  ((gi (dM E) 48 t = 0 ∧ gl (cA E) 41 a = wdC 48 0 0 ∧ CDC (vM E) (vA E) (eLU E stk) (eLV E (aP B)) K 0 n 0 (a + 1) a1 (cA E) ∧ gl (cA E) 41 a1 = wdC 46 0 0 ∧ CDM (vM E) (eLU E stk) (eLV E (aP B)) K 0 n 0 0 b b1 (dM E) ∧ opW (dM E) b1 17 0 0 0 ∧ FLX (vM E) (eLU E stk) (aP B) K 0 n 0 = [] ∧ TYX (vM E) (eLU E stk) K n = ty ∧ NDX (vM E) K 0 n ≤ 502 ∧ OKN (vM E) K 0 n)
  ∨ (gi (dM E) 48 t = 1 ∧ CDC (vM E) (vA E) (eLU E stk) (eLV E (aP B)) K 1 n 0 a a1 (cA E) ∧ gl (cA E) 41 a1 = wdC 47 0 0 ∧ CDM (vM E) (eLU E stk) (eLV E (aP B)) K 1 n 0 0 b b1 (dM E) ∧ opW (dM E) b1 17 1 0 0 ∧ FLX (vM E) (eLU E stk) (aP B) K 1 n 0 = [] ∧ tyP (vM E) (eLU E stk) (aP B) 0 n = ty ∧ NDX (vM E) K 1 n ≤ 502 ∧ OKN (vM E) K 1 n)
  ∨ (gi (dM E) 48 t = 2 ∧ b1 = b + 1 ∧ a1 = a + 2 ∧ usD (E) (eLU E stk (nd (vM E) 12 n)) (eLV E (aP B)) a b ty ∧ gl (cA E) 41 (a + 1) = wdC 45 0 0 ∧ gl (cA E) 41 (a + 2) = wdC 46 0 0 ∧ opW (dM E) (b + 1) 17 0 0 0)) ∧ (a ≤ a1 ∧ b ≤ b1) ∧ a1 < eNo E 5 0 ∧ b1 < 60000
/-- an AIM, for a LABEL -/
def THL (E : SENV) (a t : Nat) (B : ACT) : Prop := ∃ (stk : List Nat) (K n b a1 b1 : Nat), (∀ s ∈ stk, s ∈ aK B) ∧ t < 6000 ∧ gi (dM E) 47 t = Int32.ofNat b ∧ gi (dM E) 48 t = 0 ∧ CDC (vM E) (vA E) (eLU E stk) (eLV E (aP B)) K 2 n 0 a a1 (cA E) ∧ gl (cA E) 41 a1 = wdC 46 0 0 ∧ CDM (vM E) (eLU E stk) (eLV E (aP B)) K 2 n 0 0 b b1 (dM E) ∧ opW (dM E) b1 17 0 0 0 ∧ FLX (vM E) (eLU E stk) (aP B) K 2 n 0 = [] ∧ NDX (vM E) K 2 n ≤ 502 ∧ OKN (vM E) K 2 n ∧ (a ≤ a1 ∧ b ≤ b1) ∧ a1 < eNo E 5 0 ∧ b1 < 60000
/-- procedure p can be called from B's SCOPES: declared in one of them -/
def CAB (E : SENV) (B : ACT) (p : Nat) : Prop := 1 ≤ p ∧ p < eNo E 5 3 ∧ (∀ s ∈ eDS E p, s ∈ aK B) ∧ ∃ s r, eDS E p = s :: r ∧ own E s (aP B)
/-- a switch: entries on both sides -/
def SWV (E : SENV) (k : Nat) (B : ACT) : Prop := k < eNo E 5 2 ∧ gi (vM E) 19 k = 5 ∧ ∃ s, s ∈ aK B ∧ own E s (aP B) ∧ k ∈ eSL E s
/-- symbol y of activation A -/
def SYC (E : SENV) (as : List ACT) (G : GHO) (A : ACT) (y : Nat) : Prop :=
  (gi (vM E) 19 y = 1 → gi (vM E) 27 y = 0 → G 0 (aF A + sA E y) (aB A + sM E y) (gi (vM E) 20 y) 0 0) ∧ (gi (vM E) 19 y = 1 → gi (vM E) 27 y ≠ 0 → G 0 (sA E y) (sM E y) (gi (vM E) 20 y) 0 0) ∧
  (gi (vM E) 19 y = 2 → DESC G (aF A + sA E y) (aB A + sM E y) (gi (vM E) 20 y) (nd (vM E) 24 y)) ∧
  (gi (vM E) 19 y = 6 → gi (vM E) 24 y = 1 → gi (vM E) 28 y ≠ 0 → G 0 (aF A + sA E y) (aB A + sM E y) (gi (vM E) 20 y) 0 0) ∧
  (gi (vM E) 19 y = 6 → gi (vM E) 24 y = 1 → gi (vM E) 28 y = 0 → ∃ a t j B, as[j]? = some B ∧ aOn B ∧ G 1 (aF A + sA E y) (aB A + sM E y) 0 (Int64.ofNat a) (Int64.ofNat t) ∧ G 1 (aF A + sA E y + 1) (aB A + sM E y + 1) 0 (Int64.ofNat (aF B)) (Int64.ofNat j) ∧ THV E a t (gi (vM E) 20 y) B) ∧
  (gi (vM E) 19 y = 6 → gi (vM E) 24 y = 2 → ∃ x q nb, G 1 (aF A + sA E y) (aB A + sM E y) 0 (Int64.ofNat x) (Int64.ofNat q) ∧ DESC G x q (gi (vM E) 20 y) nb) ∧
  (gi (vM E) 19 y = 6 → gi (vM E) 24 y = 3 → ∃ p j B, as[j]? = some B ∧ aOn B ∧ G 1 (aF A + sA E y) (aB A + sM E y) 0 (Int64.ofNat (eNo E 0 p)) (Int64.ofNat p) ∧ G 1 (aF A + sA E y + 1) (aB A + sM E y + 1) 0 (Int64.ofNat (aF B)) (Int64.ofNat j) ∧ CAB E B p ∧ gi (vM E) 31 p = 0 ∧ gi (vM E) 20 (nd (vM E) 29 p) = gi (vM E) 20 y) ∧
  (gi (vM E) 19 y = 6 → gi (vM E) 24 y = 4 → ∃ a t j B, as[j]? = some B ∧ aOn B ∧ G 1 (aF A + sA E y) (aB A + sM E y) 0 (Int64.ofNat a) (Int64.ofNat t) ∧ G 1 (aF A + sA E y + 1) (aB A + sM E y + 1) 0 (Int64.ofNat (aF B)) (Int64.ofNat j) ∧ THL E a t B) ∧
  (gi (vM E) 19 y = 6 → gi (vM E) 24 y = 5 → ∃ k j B x, as[j]? = some B ∧ aOn B ∧ gl (cA E) 41 (k + 1) = Int64.ofNat x ∧ G 1 (aF A + sA E y) (aB A + sM E y) 0 (Int64.ofNat x) (Int64.ofNat k) ∧ G 1 (aF A + sA E y + 1) (aB A + sM E y + 1) 0 (Int64.ofNat (aF B)) (Int64.ofNat j) ∧ SWV E k B)
/-- the ELEMENTS that stay at the end of what's innermost -/
def kvO (E : SENV) (A : ACT) : List Nat → Nat
  | [] => A.1 8
  | s :: r => if own E s (aP A) then (if gi (vM E) 17 s = -1 then kvO E A r else A.1 (100 + s)) else A.1 8
/-- activation i -/
def SEA (E : SENV) (as : List ACT) (G : GHO) (i : Nat) (A : ACT) : Prop :=
  (∃ L, as[A.1 3]? = some L ∧ aOn L ∧ G 2 (aF A) 0 0 (Int64.ofNat (aF L)) 0 ∧ (aP A = 0 ∧ i = 0 ∧ A.1 3 = 0 ∨ aP A ≠ 0 ∧ A.1 3 < i ∧ CAB E L (aP A) ∧ eLV E (aP A) = eLV E (aP L) + 1)) ∧
  G 2 (aF A + 1) 0 0 (Int64.ofNat (A.1 4)) 0 ∧ G 2 (aF A + 2) 0 0 (Int64.ofNat (A.1 8)) 0 ∧ G 2 (aF A + 3) 0 0 (Int64.ofNat (A.1 5)) 0 ∧ G 2 (aF A + 4) 0 0 (Int64.ofNat (aF A + eNo E 1 (aP A))) 0 ∧
  (aP A ≠ 0 → gi (vM E) 20 (nd (vM E) 29 (aP A)) ≠ 0 → G 0 (aF A + 5) (aB A) (gi (vM E) 20 (nd (vM E) 29 (aP A))) 0 0) ∧
  (∃ o, aK A = o ++ eDS E (aP A) ∧ (∀ s ∈ o, own E s (aP A)) ∧ ∀ s ∈ eDS E (aP A), ¬ own E s (aP A)) ∧ UPM (eNo E 5 6) (vM E) (aK A) ∧ (aK A).length < 9000 ∧
  (∀ s ∈ aK A, own E s (aP A) → ∀ y ∈ eSL E s, SYC E as G A y) ∧
  (∀ s r, (s :: r) <:+ aK A → own E s (aP A) → ∀ bk, gi (vM E) 17 s = Int32.ofNat bk → bk < 9000 → G 1 (aF A + eNo E 4 s) (aB A + nd (vM E) 41 bk + 1) 0 (Int64.ofNat (A.1 (100 + s))) (Int64.ofNat (A.1 (100 + s))) ∧ G 3 0 (aB A + nd (vM E) 41 bk) 0 0 (Int64.ofNat (kvO E A r)) ∧ kvO E A r ≤ A.1 (100 + s)) ∧
  (∀ y, y < eNo E 5 2 → gi (vM E) 19 y = 1 → gi (vM E) 27 y ≠ 0 → G 0 (sA E y) (sM E y) (gi (vM E) 20 y) 0 0)
/-- no more is printed than STEPS are paid -/
def PSD (w u : Wd) : Prop := (gi u 56 3).toInt - (gi u 56 4).toInt ≤ (gi w 56 3).toInt - (gi w 56 4).toInt ∧ (gi w 56 4).toInt ≤ (gi u 56 4).toInt
theorem PSD.tr {w u v : Wd} (h1 : PSD w u) (h2 : PSD u v) : PSD w v := ⟨Int.le_trans h2.1 h1.1, Int.le_trans h1.2 h2.2⟩
theorem PSD.eq {w u : Wd} (h3 : gi u 56 3 = gi w 56 3) (h4 : gi u 56 4 = gi w 56 4) : PSD w u := by
  unfold PSD
  rw [h3, h4]; exact ⟨Int.le_refl _, Int.le_refl _⟩
theorem TLY.psd {al st pr de fu st' pr' de' fu' : Nat} {w u : Wd} (T : TLY al st pr de fu w) (U : TLY al st' pr' de' fu' u) (h : pr' + st ≤ pr + st') (h2 : st ≤ st' := by omega) : PSD w u := by
  obtain ⟨t1, t2, t3, t4, t5, t6, t7, t8, t9, t10, t11⟩ := T
  obtain ⟨u1, u2, u3, u4, u5, u6, u7, u8, u9, u10, u11⟩ := U
  unfold PSD
  rw [t2, t3, u2, u3, ti_iN (by omega), ti_iN (by omega), ti_iN (by omega), ti_iN (by omega)]
  omega
theorem TLY.psq {al st pr de fu st' pr' de' fu' : Nat} {w u : Wd} (T : TLY al st pr de fu w) (U : TLY al st' pr' de' fu' u) (h : PSD w u) : pr' + st ≤ pr + st' := by
  obtain ⟨t1, t2, t3, t4, t5, t6, t7, t8, t9, t10, t11⟩ := T
  obtain ⟨u1, u2, u3, u4, u5, u6, u7, u8, u9, u10, u11⟩ := U
  unfold PSD at h
  rw [t2, t3, u2, u3, ti_iN (by omega), ti_iN (by omega), ti_iN (by omega), ti_iN (by omega)] at h
  omega
/-- .. and STEPS -/
theorem TLY.pss {al st pr de fu st' pr' de' fu' : Nat} {w u : Wd} (T : TLY al st pr de fu w) (U : TLY al st' pr' de' fu' u) (h : PSD w u) : st ≤ st' := by
  obtain ⟨t1, t2, t3, t4, t5, t6, t7, t8, t9, t10, t11⟩ := T
  obtain ⟨u1, u2, u3, u4, u5, u6, u7, u8, u9, u10, u11⟩ := U
  have h := h.2
  rw [t2, u2, ti_iN (by omega), ti_iN (by omega)] at h
  omega
/-- what the worlds know of activation i: the reference's tables of them; what lies below stays -/
def KEE (h dp sp cp : Nat) (wA wM uA uM : Wd) : Prop := (∀ j, j < h → gl uA 51 j = gl wA 51 j) ∧ (∀ k j, 52 ≤ k → k ≤ 54 → j ≤ dp → gi uA k j = gi wA k j) ∧ (∀ j, j < sp → gl uM 85 j = gl wM 85 j) ∧ (∀ k j, 92 ≤ k → k ≤ 97 → j < cp → gi uM k j = gi wM k j) ∧ PSD wA uA
def ACM (i : Nat) (A : ACT) (wA wM : Wd) : Prop := gi wM 87 i = Int32.ofNat (aB A) ∧ gi wM 98 i = Int32.ofNat (aP A) ∧ gi wM 88 i = Int32.ofNat (A.1 3) ∧ gi wM 89 i = Int32.ofNat (A.1 7) ∧ gi wM 90 i = Int32.ofNat (A.1 6) ∧ gi wM 91 i = Int32.ofNat (A.1 8) ∧
  (i = 0 ∧ A.1 4 = 0 ∨ i ≠ 0 ∧ 1 ≤ A.1 7 ∧ 1 ≤ A.1 4 ∧ gi wM 96 (A.1 7 - 1) = Int32.ofNat (A.1 4 - 1)) ∧ KEE (A.1 5) (A.1 4) (A.1 6) (A.1 7) A.2.2.1 A.2.2.2.1 wA wM
/-- frames that are there -/
def cnO : List ACT → Nat
  | [] => 0
  | A :: r => (if A.1 10 = 1 then 1 else 0) + cnO r
/-- the frame of what's going on: activations, cells, numbers (0 which is at hand, 1 top, 2 memory, 3 depth, 4 controls, 5 ELEMENTS) -/
abbrev CXT : Type := List ACT × GHO × (Nat → Nat)
/-- words done for one STEP, at most -/
abbrev KK : Nat := 600000
/-- what a RUN may change -/
def PZA (k j : Nat) : Prop := (k = 48 ∧ 10 ≤ j) ∨ 50 ≤ k
def PZR (k j : Nat) : Prop := (k = 0 ∧ 127 ≤ j) ∨ 83 ≤ k
/-- both machines: at word a and code b; ELEMENTS of the class; heights; STEPS; words done beyond those paid for, words done -/
def JS (E : SENV) (K : CXT) (el a b h sp sc : Nat) (x : Int) (i : Nat) (wA wM : Wd) : Prop :=
  ∃ A pr de fu, K.1[K.2.2 0]? = some A ∧ aOn A ∧ CK (cA E) (eNo E 5 0) a (aF A) (K.2.2 1) h (K.2.2 3) el wA ∧ TLY (eNo E 5 5) sc pr de fu wA ∧ MK (dM E) b (K.2.2 0) sp (K.2.2 4) K.1.length (K.2.2 2) (K.2.2 5) (K.2.2 3) wM ∧ TLM (eNo E 5 5) sc pr de fu wM ∧ (∀ j, j < pr → j < 500 → gl wA 55 j = gl wM 86 j) ∧
    MEM K.2.1 wA wM ∧ DIS K.2.1 (K.2.2 1) (K.2.2 2) (K.2.2 5) ∧ (∀ j B, K.1[j]? = some B → ACM j B wA wM ∧ B.1 4 ≤ K.2.2 3 ∧ B.1 5 ≤ h ∧ B.1 6 ≤ sp ∧ B.1 7 ≤ K.2.2 4 ∧ aB B ≤ 199000 ∧ (aOn B → SEA E K.1 K.2.1 j B)) ∧
    (sp ≤ h ∧ K.2.2 4 ≤ 4 * K.2.2 3 + 4 ∧ (i : Int) ≤ x + KK * sc ∧ x ≤ KK ∧ K.1.length ≤ K.2.2 3 + 1 ∧ K.2.2 2 ≤ eNo E 5 1 + K.1.length * eNo E 5 7 ∧ K.2.2 1 ≤ 6096 + 1690 * cnO K.1) ∧ OFF PZA wA (E.1 4) ∧ OFF PZR wM (E.1 5)
/-- all activations begin below -/
def LOWK (K : CXT) (h sp : Nat) : Prop := ∀ (j : Nat) (B : ACT), K.1[j]? = some B → B.1 5 ≤ h ∧ B.1 6 ≤ sp
variable {E : SENV} {K : CXT} {el a b h sp sc sc1 i k a1 b1 h1 sp1 h0 sp0 : Nat} {x x1 : Int} {wA wM uA uM : Wd}
theorem JS.low (H : JS E K el a b h sp sc x i wA wM) : LOWK K h sp := by
  obtain ⟨A, pr, de, fu, j1, j2, j3, j4, j5, j6, j7, j8, j9, j10, j11⟩ := H
  exact fun j B hB => ⟨(j10 j B hB).2.2.1, (j10 j B hB).2.2.2.1⟩
/-- what lies below stays -/
theorem KEE.tr {dp cp : Nat} {vA' vM' : Wd} (h1' : KEE h dp sp cp wA wM uA uM) (h2' : KEE h dp sp cp uA uM vA' vM') : KEE h dp sp cp wA wM vA' vM' :=
  ⟨fun j hj => (h2'.1 j hj).trans (h1'.1 j hj), fun k j p q r => (h2'.2.1 k j p q r).trans (h1'.2.1 k j p q r), fun j hj => (h2'.2.2.1 j hj).trans (h1'.2.2.1 j hj), fun k j p q r => (h2'.2.2.2.1 k j p q r).trans (h1'.2.2.2.1 k j p q r), h1'.2.2.2.2.tr h2'.2.2.2.2⟩
theorem KEE.le {dp cp h' dp' sp' cp' : Nat} (H : KEE h dp sp cp wA wM uA uM) (q1 : h' ≤ h) (q2 : dp' ≤ dp) (q3 : sp' ≤ sp) (q4 : cp' ≤ cp) : KEE h' dp' sp' cp' wA wM uA uM :=
  ⟨fun j hj => H.1 j (by omega), fun k j p q r => H.2.1 k j p q (by omega), fun j hj => H.2.2.1 j (by omega), fun k j p q r => H.2.2.2.1 k j p q (by omega), H.2.2.2.2⟩
theorem KEE.rf {dp cp : Nat} : KEE h dp sp cp wA wM wA wM := ⟨fun _ _ => rfl, fun _ _ _ _ _ => rfl, fun _ _ => rfl, fun _ _ _ _ _ => rfl, PSD.eq rfl rfl⟩
theorem KEE.st {dp cp : Nat} (hA : OFF (PSK h0) uA wA) (hM : OFF (PSO sp0) uM wM) : KEE h0 dp sp0 cp wA wM uA uM :=
  ⟨fun j hj => (hA 51 j (by unfold PSK; omega)).2, fun k j p q r => (hA k j (by unfold PSK; omega)).1, fun j hj => (hM 85 j (by unfold PSO; omega)).2, fun k j p q r => (hM k j (by unfold PSO; omega)).1, PSD.eq (hA 56 3 (by unfold PSK; omega)).1 (hA 56 4 (by unfold PSK; omega)).1⟩
/-- words and codes that touch the stack and the pile alone -/
theorem JS.mv (H : JS E K el a b h sp sc x i wA wM) (L : LOWK K h0 sp0) (hA : OFF (PSK h0) uA wA) (hM : OFF (PSO sp0) uM wM) (q1 : gi uA 48 11 = Int32.ofNat a1) (q2 : gi uA 48 14 = Int32.ofNat h1) (q3 : gi uM 0 128 = Int32.ofNat b1) (q4 : gi uM 0 130 = Int32.ofNat sp1) (hb : b1 ≤ 60000 ∧ h1 ≤ 30622 ∧ h0 ≤ h1 ∧ sp0 ≤ sp1 ∧ sp1 ≤ h1) (hx : x + k ≤ x1 ∧ x1 ≤ KK) : JS E K el a1 b1 h1 sp1 sc x1 (i + k) uA uM := by
  obtain ⟨A, pr, de, fu, j1, j2, j3, j4, j5, j6, j7, j8, j9, j10, ⟨j11, j12, j13, j14, j15⟩, o1, o2⟩ := H
  refine ⟨A, pr, de, fu, j1, j2, j3.ps hA q1 q2 hb.2.1, j4.off hA (fun k j p => by unfold PSK at p; omega), j5.ps hM q3 q4 hb.1 (by omega), j6.off hM (fun k j p => by unfold PSO at p; omega), fun j g1 g2 => ?_, j8.agr (fun _ _ _ _ _ _ _ _ => (hA 50 _ (by unfold PSK; omega)).2) (fun _ _ q _ _ _ _ _ => ?_), j9, fun j B hB => ?_, ⟨by omega, j12, by omega, by omega, j15⟩, OFF.tr (hA.mono fun k j p => by unfold PSK at p; unfold PZA; omega) o1, OFF.tr (hM.mono fun k j p => by unfold PSO at p; unfold PZR; omega) o2⟩
  · rw [(hA 55 j (by unfold PSK; omega)).2, (hM 86 j (by unfold PSO; omega)).2]; exact j7 j g1 g2
  · unfold RMq
    rw [(hM 83 q (by unfold PSO; omega)).2, (hM 84 _ (by unfold PSO; omega)).2]
  · obtain ⟨⟨m1, m2, m3, m4, m5, m6, m7, m8⟩, n1, n2, n3, n4, n5⟩ := j10 j B hB
    obtain ⟨l1, l2⟩ := L j B hB
    have e : ∀ k j, 87 ≤ k → gi uM k j = gi wM k j := fun k j p => (hM k j (by unfold PSO; omega)).1
    refine ⟨⟨(e 87 _ (by omega)).trans m1, (e 98 _ (by omega)).trans m2, (e 88 _ (by omega)).trans m3, (e 89 _ (by omega)).trans m4, (e 90 _ (by omega)).trans m5, (e 91 _ (by omega)).trans m6, ?_, m8.tr ((KEE.st (dp := B.1 4) (cp := B.1 7) hA hM).le l1 (Nat.le_refl _) l2 (Nat.le_refl _))⟩, n1, by omega, by omega, n4, n5⟩
    rw [e 96 _ (by omega)]; exact m7
/-- static bounds -/
def EOKS (E : SENV) : Prop := eNo E 5 0 ≤ 36872 ∧ eNo E 5 5 ≤ 20000 ∧ eNo E 5 4 = (eNo E 5 5 + 2) * KK
/-- at the end: what's counted, what's printed; nothing else has changed -/
def ENS (E : SENV) (uA uM : Wd) : Prop := ∃ sc pr de fu, TLY (eNo E 5 5) sc pr de fu uA ∧ TLM (eNo E 5 5) sc pr de fu uM ∧ (∀ j, j < pr → j < 500 → gl uA 55 j = gl uM 86 j) ∧ OFF PZA uA (E.1 4) ∧ OFF PZR uM (E.1 5)
/-- both end alike -/
def GD (E : SENV) (i : Nat) (wA wM : Wd) : Prop := GOOD (eNo E 5 4) (fun _ => ENS E) i wA wM
/-- .. and that both go on from there alike -/
theorem JS.gov (hE : EOKS E) {k0 : Nat} (hA : TKS k0 wA uA) (hk : k0 ≤ k) {j : Nat} (hM : SPS j wM uM) (hj : j ≤ 4 * k) (H : JS E K el a1 b1 h1 sp1 sc1 x1 (i + k) uA uM) (g : GD E (i + k) uA uM) : GD E i wA wM := by
  obtain ⟨A, pr, de, fu, j1, j2, j3, ⟨t1, t2, t3, t4, t5, t6, t7, t8⟩, j5, j6, j7, j8, j9, j10, ⟨j11, j12, j13, j14, j15⟩, o1, o2⟩ := H
  obtain ⟨e1, e2, e3⟩ := hE
  refine GOOD.adw (by rw [e3]; unfold KK; omega) hA hM hj hk ?_ g
  rw [e3]
  have : KK * sc1 ≤ KK * eNo E 5 5 := Nat.mul_le_mul_left _ t7
  unfold KK at *
  omega
theorem JS.go (hE : EOKS E) (hA : TKS k wA uA) {j : Nat} (hM : SPS j wM uM) (hj : j ≤ 4 * k) (H : JS E K el a1 b1 h1 sp1 sc1 x1 (i + k) uA uM) (g : GD E (i + k) uA uM) : GD E i wA wM := JS.gov hE hA (Nat.le_refl _) hM hj H g
/-- both end: the class with f in the last of its words -/
theorem JS.fin (hE : EOKS E) {f : Int32} {j sc1 : Nat} {pr1 de1 fu1 : Nat} (H : JS E K el a b h sp sc x i wA wM) (hx : k ≤ KK) {k0 : Nat} (hA : TKS k0 wA uA) (hM : SPS j wM uM) (hj : j ≤ 4 * k) (eA : ENDA f uA) (eM : ENDM f uM) (tA : TLY (eNo E 5 5) sc1 pr1 de1 fu1 uA) (tM : TLM (eNo E 5 5) sc1 pr1 de1 fu1 uM) (hp : ∀ j, j < pr1 → j < 500 → gl uA 55 j = gl uM 86 j) (OA : OFF PZA uA wA) (OM : OFF PZR uM wM) (hk0 : k0 ≤ k := by exact Nat.le_refl _) : GD E i wA wM := by
  obtain ⟨A, pr, de, fu, j1, j2, j3, ⟨t1, t2, t3, t4, t5, t6, t7, t8⟩, j5, j6, j7, j8, j9, j10, ⟨j11, j12, j13, j14, j15⟩, o1, o2⟩ := H
  obtain ⟨e1, e2, e3⟩ := hE
  have hb : i + k ≤ eNo E 5 4 := by
    rw [e3]
    have : KK * sc ≤ KK * eNo E 5 5 := Nat.mul_le_mul_left _ t7
    unfold KK at *
    omega
  have hB : eNo E 5 4 < 100000000000 := by rw [e3]; unfold KK; omega
  exact GOOD.adw hB hA hM hj hk0 hb (GOOD.fin hB hb eA eM ⟨sc1, pr1, de1, fu1, tA, tM, hp, OFF.tr OA o1, OFF.tr OM o2⟩)
end JD
