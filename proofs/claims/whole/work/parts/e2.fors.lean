/-! PASS 2, THE REFERENCE: for -/
/-- 'mustBe' -/
def mbP (fM : Wd) (lu : Nat → Nat) (cur lev K x : Nat) (b b' : Nat) (g : Wd) : Prop := FLX fM lu cur K 0 x 0 = [] → CDM fM lu lev K 0 x 0 0 b b' g
def mbL (fM : Wd) (lu : Nat → Nat) (cur K x : Nat) (ty : Int32) : List (Nat × Int32) := FLX fM lu cur K 0 x 0 ++ misT (TYX fM lu K x) ty (nd fM 12 x)
/-- the VARIABLE of a for, set; R X: the registers -/
def FVT (kd wr : Nat → Nat) (m : Nat) (fM : Wd) (lev cur v : Nat) (R X ty : Int32) (LT : List (Nat × Int32)) (PT : Nat → Nat → Wd → Prop) : Prop :=
  ∀ c w, GST kd wr m fM lev cur c w → gi w 0 85 = R → gi w 0 86 = X → c 0 + 4 ≤ 60000 → FIT c 0 1 → ∃ u c', fX12_target (Int32.ofNat v) w = some (ty, u) ∧ (gi u 0 85 = R ∧ gi u 0 86 = X) ∧ ∀ i, EST kd wr m fM lev cur i i c c' w u LT (fun b q b' q' g => PT b b' g ∧ q' = q) 1 0 0 0 0 0
/-- and read -/
def FVR (kd wr : Nat → Nat) (m : Nat) (fM : Wd) (lev cur v : Nat) (R X : Int32) (LR : List (Nat × Int32)) (PR : Nat → Nat → Wd → Prop) : Prop :=
  ∀ c w, GST kd wr m fM lev cur c w → gi w 0 85 = R → gi w 0 86 = X → c 0 + 4 ≤ 60000 → FIT c 0 1 → ∃ x u c', fX12_read (Int32.ofNat v) w = some (x, u) ∧ (gi u 0 85 = R ∧ gi u 0 86 = X) ∧ ∀ i, EST kd wr m fM lev cur i i c c' w u LR (fun b q b' q' g => PR b b' g ∧ q' = q) 2 0 1 0 0 0
/-- v := x -/
def stP (fM : Wd) (lu : Nat → Nat) (cur lev K x : Nat) (PT : Nat → Nat → Wd → Prop) (b b' : Nat) (g : Wd) : Prop := ∃ b1 b2, opW g b 12 0 0 0 ∧ PT (b + 1) b1 g ∧ mbP fM lu cur lev K x b1 b2 g ∧ opW g b2 7 1 0 0 ∧ b' = b2 + 1
def stL (fM : Wd) (lu : Nat → Nat) (cur K v x : Nat) (ty : Int32) (LT : List (Nat × Int32)) : List (Nat × Int32) := LT ++ (if ty = 2 then [(nd fM 12 v, 4)] else []) ++ mbL fM lu cur K x 1
/-- an ELEMENT of a for: node, what it is, EXPRS -/
abbrev FEL : Type := Nat × Nat × (Nat × Nat) × (Nat × Nat) × (Nat × Nat)
def feT (x : FEL) : Nat := if x.2.1 = 0 then x.2.2.1.2 + 1 else if x.2.1 = 1 then x.2.2.1.2 + x.2.2.2.1.2 + 2 else x.2.2.1.2 + x.2.2.2.1.2 + x.2.2.2.2.2 + 10
def feL (fM : Wd) (lu : Nat → Nat) (cur K v : Nat) (ty : Int32) (LT LR : List (Nat × Int32)) (x : FEL) : List (Nat × Int32) :=
  if x.2.1 = 0 then stL fM lu cur K v x.2.2.1.1 ty LT else if x.2.1 = 1 then stL fM lu cur K v x.2.2.1.1 ty LT ++ mbL fM lu cur K x.2.2.2.1.1 2
  else stL fM lu cur K v x.2.2.1.1 ty LT ++ mbL fM lu cur K x.2.2.2.1.1 1 ++ LT ++ LR ++ LR ++ mbL fM lu cur K x.2.2.2.2.1 1
def feP (fM : Wd) (lu : Nat → Nat) (cur lev K : Nat) (PT PR : Nat → Nat → Wd → Prop) (s x4 : Nat) (x : FEL) (b b' : Nat) (g : Wd) : Prop :=
  (x.2.1 = 0 ∧ ∃ b1, stP fM lu cur lev K x.2.2.1.1 PT b b1 g ∧ opW g b1 30 (Int32.ofNat s) (Int32.ofNat (b1 + 2)) 0 ∧ opW g (b1 + 1) 10 (Int32.ofNat x4) 0 0 ∧ b' = b1 + 2)
  ∨ (x.2.1 = 1 ∧ ∃ b1 b2, stP fM lu cur lev K x.2.2.1.1 PT b b1 g ∧ mbP fM lu cur lev K x.2.2.2.1.1 b1 b2 g ∧ opW g b2 11 (Int32.ofNat b') 0 0 ∧ opW g (b2 + 1) 30 (Int32.ofNat s) (Int32.ofNat b) 0 ∧ opW g (b2 + 2) 10 (Int32.ofNat x4) 0 0 ∧ b' = b2 + 3)
  ∨ (2 ≤ x.2.1 ∧ ∃ b1 b2 b3 b4 b5 b6, stP fM lu cur lev K x.2.2.1.1 PT b b1 g ∧ opW g b1 10 (Int32.ofNat (b4 + 3)) 0 0 ∧ mbP fM lu cur lev K x.2.2.2.1.1 (b1 + 1) b2 g ∧ opW g b2 32 0 0 0 ∧ opW g (b2 + 1) 12 0 0 0 ∧ PT (b2 + 2) b3 g ∧ PR b3 b4 g ∧ opW g b4 31 (Int32.ofNat (b1 + 1)) 0 0 ∧ opW g (b4 + 1) 8 43 0 0 ∧ opW g (b4 + 2) 7 1 0 0 ∧
      opW g (b4 + 3) 31 (Int32.ofNat (b1 + 1)) 0 0 ∧ PR (b4 + 4) b5 g ∧ mbP fM lu cur lev K x.2.2.2.2.1 b5 b6 g ∧ opW g b6 28 (Int32.ofNat b') 0 0 ∧ opW g (b6 + 1) 30 (Int32.ofNat s) (Int32.ofNat (b2 + 1)) 0 ∧ opW g (b6 + 2) 10 (Int32.ofNat x4) 0 0 ∧ b' = b6 + 3)
/-- an EXPR that has been gone over -/
def feV (kd wr : Nat → Nat) (m : Nat) (fM : Wd) (lu : Nat → Nat) (lev cur K : Nat) (p : Nat × Nat) : Prop := p.1 < 24000 ∧ RWN kd wr m fM lu lev cur K 1699 p
def feS (kd wr : Nat → Nat) (m : Nat) (fM : Wd) (lu : Nat → Nat) (lev cur K : Nat) (x : FEL) : Prop := gi fM 8 x.1 = Int32.ofNat x.2.2.1.1 ∧ feV kd wr m fM lu lev cur K x.2.2.1 ∧
  (x.2.1 = 0 ∧ gi fM 7 x.1 = 30 ∨ x.2.1 = 1 ∧ gi fM 7 x.1 = 32 ∧ gi fM 9 x.1 = Int32.ofNat x.2.2.2.1.1 ∧ feV kd wr m fM lu lev cur K x.2.2.2.1 ∨ x.2.1 = 2 ∧ gi fM 7 x.1 = 31 ∧ gi fM 9 x.1 = Int32.ofNat x.2.2.2.1.1 ∧ feV kd wr m fM lu lev cur K x.2.2.2.1 ∧ gi fM 10 x.1 = Int32.ofNat x.2.2.2.2.1 ∧ feV kd wr m fM lu lev cur K x.2.2.2.2)
section EX
variable {kd wr nm : Nat → Nat} {vv : Nat → Int64} {m lev cur : Nat} {fA fM : Wd} {c c1 c2 c' C TK : Nat → Nat} {SL : Nat → List Nat} {w u : Wd} {L L1 L2 LT LR : List (Nat × Int32)} {P P1 P2 : Nat → Nat → Nat → Nat → Wd → Prop} {PT PR : Nat → Nat → Wd → Prop} {i i0 i1 i2 i3 v : Nat} {lu : Nat → Nat} {R X ty : Int32}
/-- where it is -/
theorem EST.pos {a0 a1 a2 a3 a4 a5 : Nat} (h : EST kd wr m fM lev cur i0 i1 c c1 w u L P a0 a1 a2 a3 a4 a5) : EST kd wr m fM lev cur i0 i1 c c1 w u L (fun b q b' q' g => (b = c 0 ∧ b' = c1 0) ∧ P b q b' q' g) a0 a1 a2 a3 a4 a5 := by
  obtain ⟨h1, h2, h3, h4, h5, h6, h7, h8, h9⟩ := h
  exact ⟨h1, h2, h3, h4, h5, h6, h7, h8, fun g hg => ⟨⟨rfl, rfl⟩, h9 g hg⟩⟩
theorem EST.mb {K Tx tx : Nat} {x : Nat} {t : Int32} (hG : GST kd wr m fM lev cur c w) (hx : x < 24000) (h12 : gi fM 12 x = Int32.ofNat tx) (htx : tx ≤ m) (hV : VS kd wr m fM lu lev cur K 1699 x Tx) (hf : FIT c 0 Tx) : ∃ u c', RX12_mustBe 1700 0 (Int32.ofNat x) t 0 w = some (0, u) ∧ (gi u 0 85 = gi w 0 85 ∧ gi u 0 86 = gi w 0 86) ∧ ∀ i, EST kd wr m fM lev cur i i c c' w u (mbL fM lu cur K x t) (fun b q b' q' g => mbP fM lu cur lev K x b b' g ∧ q' = q) (2 * Tx - 1) ((Tx - 1) / 2) ((Tx + 1) / 2) ((Tx - 1) / 2) 0 0 := by
  obtain ⟨u, c2, o2, E2⟩ := g_mb hV hG.1 hf hx h12 htx (ty := t)
  exact ⟨u, cM c c2, o2, ⟨(E2.2.2.1 0 85 (by unfold PGX; omega)).1, (E2.2.2.1 0 86 (by unfold PGX; omega)).1⟩, fun i => EST.em (i := i) hG E2⟩
/-- v := x -/
theorem set_to {K : Nat} {p : Nat × Nat} {tv : Nat} (hT : FVT kd wr m fM lev cur v R X ty LT PT) (hv : v < 24000) (hv12 : gi fM 12 v = Int32.ofNat tv) (htv : tv ≤ m) (hp : feV kd wr m fM lu lev cur K p) (hG : GST kd wr m fM lev cur c w) (hR : gi w 0 85 = R) (hX : gi w 0 86 = X) (hf : FITS c (p.2 + 1)) :
    ∃ u c', fX12_setTo (Int32.ofNat v) (Int32.ofNat p.1) w = some u ∧ (gi u 0 85 = R ∧ gi u 0 86 = X) ∧ ∀ i, EST kd wr m fM lev cur i i c c' w u (stL fM lu cur K v p.1 ty LT) (fun b q b' q' g => stP fM lu cur lev K p.1 PT b b' g ∧ q' = q) (2 * p.2 + 2) ((p.2 - 1) / 2) ((p.2 + 1) / 2) ((p.2 - 1) / 2) 0 0 := by
  unfold FITS at hf
  obtain ⟨hp24, hV, ⟨tx, hx12, htx⟩, hT1⟩ := hp
  have hm := hG.1.1.1.1
  obtain ⟨u1, o1, E1, r1, r2⟩ := EST.op hG (by omega) (a := 12) (x := 0) (y := 0) (z := 0)
  have e0 : upC c 0 (c 0 + 1) 0 = c 0 + 1 := upC_s
  have en : ∀ j, j ≠ 0 → upC c 0 (c 0 + 1) j = c j := fun j hj => upC_n hj
  generalize upC c 0 (c 0 + 1) = d1 at E1 e0 en
  obtain ⟨u2, c2, o2, ⟨r3, r4⟩, E2⟩ := hT d1 u1 (E1 0).1 (r1.trans hR) (r2.trans hX) (by omega) (by unfold FIT; rw [e0, en 1 (by omega), en 2 (by omega), en 3 (by omega)]; omega)
  have hb2 := (E2 0).2.2.2.2.2.2.2.1
  rw [e0, en 1 (by omega), en 2 (by omega), en 3 (by omega)] at hb2
  -- not a number: a fault
  have hfa : ∃ u3, (if ty = 2 then (if inb (Int32.ofNat v) 24000 = true then bn (fX12_found 4 (gi u2 12 (Int32.toNatClampNeg (Int32.ofNat v))) u2) fun w7 => fX12_setTo_34 (Int32.ofNat p.1) w7 else none) else (fX12_setTo_34 (Int32.ofNat p.1) u2)) = fX12_setTo_34 (Int32.ofNat p.1) u3 ∧ (gi u3 0 85 = R ∧ gi u3 0 86 = X) ∧ ∀ i, EST kd wr m fM lev cur i i c2 c2 u2 u3 (if ty = 2 then [(nd fM 12 v, 4)] else []) (fun b q b' q' _ => b' = b ∧ q' = q) 0 0 0 0 0 0 := by
    by_cases q : ty = 2
    · obtain ⟨u3, x1, x2, x3, x4⟩ := g_found (E2 0).1.1 htv (num := 4)
      have hnd : nd fM 12 v = tv := by
        unfold nd
        rw [hv12, tc_iN (by omega)]
      refine ⟨u3, ?_, ⟨(x4 0 85 (by omega)).1.trans r3, (x4 0 86 (by omega)).1.trans r4⟩, fun i => ?_⟩
      · rw [if_pos q, if_pos (inb_iN hv (by omega)), tc_iN (by omega), (E2 0).1.fx (k := 12) (by unfold PGM PGX; omega), hv12, x1, bn_so]
      · rw [if_pos q, hnd]
        exact EST.fl (E2 0).1 x2 x3 x4
    · refine ⟨u2, by rw [if_neg q], ⟨r3, r4⟩, fun i => ?_⟩
      rw [if_neg q]
      exact EST.no (E2 0).1
  obtain ⟨u3, o3, ⟨r5, r6⟩, E3⟩ := hfa
  obtain ⟨u4, c4, o4, ⟨r7, r8⟩, E4⟩ := EST.mb (t := 1) (E3 0).1 hp24 hx12 htx hV (by unfold FIT; omega)
  have hb4 := (E4 0).2.2.2.2.2.2.2.1
  obtain ⟨u5, o5, E5, r9, r10⟩ := EST.op (E4 0).1 (by omega) (a := 7) (x := 1) (y := 0) (z := 0)
  refine ⟨u5, _, ?_, ⟨r9.trans (r7.trans r5), r10.trans (r8.trans r6)⟩, fun i => (((E1 i).seq ((E2 i).seq ((E3 i).seq ((E4 i).seq (E5 i))))).fls (by unfold stL; simp only [List.nil_append, List.append_nil, List.append_assoc])).wk (fun b q b' q' g hg => ?_) (by omega)⟩
  · unfold fX12_setTo
    rw [o1, bn2_so, o2, bn2_so]
    refine o3.trans ?_
    unfold fX12_setTo_34
    rw [o4, bn2_so, o5]
    rfl
  · obtain ⟨b1, q1, ⟨⟨g1, g2⟩, g3⟩, b2, q2, ⟨g4, g5⟩, b3, q3, ⟨g6, g7⟩, b4, q4, ⟨g8, g9⟩, ⟨g10, g11⟩, g12⟩ := hg
    subst g2 g3 g5 g6 g7 g9
    exact ⟨⟨b3, b4, g1, g4, g8, g10, g11⟩, g12⟩
end EX
