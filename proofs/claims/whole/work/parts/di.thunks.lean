/-! PASS 2, THE REFERENCE: a thunk, whole -/
/-- there's room for an ACTUAL of T TOKENS, and it is counted already -/
def FTA (c : Nat → Nat) (sp T : Nat) : Prop := c 0 + 2 * T + 6 ≤ 60000 ∧ 2 * c 1 + T + 3 ≤ 12000 ∧ 2 * c 2 + T + 3 ≤ 8598 ∧ 2 * c 3 + T + 1 ≤ 12000 ∧ sp + T + 3 ≤ 24000
section SG
variable {kd wr nm : Nat → Nat} {vv : Nat → Int64} {m lev cur sp : Nat} {fA fM : Wd} {c c1 c2 C TK : Nat → Nat} {SL : Nat → List Nat} {w u v : Wd} {L L1 L2 : List (Nat × Int32)} {P P1 P2 : Nat → Nat → Wd → Prop} {a0 a1 a2 a3 b0 b1 b2 b3 : Nat} {lu : Nat → Nat}
/-- what's noted of a thunk: the jump over it, where it begins, its kind -/
def thP (th : Nat) (kind : Int32) (Q : Nat → Nat → Wd → Prop) (b b' : Nat) (g : Wd) : Prop := opW g b 10 (Int32.ofNat b') 0 0 ∧ gi g 47 th = Int32.ofNat (b + 1) ∧ gi g 48 th = kind ∧ ∃ q, Q (b + 1) q g ∧ opW g q 17 (if kind = 1 then 1 else 0) 0 0 ∧ b' = q + 1
theorem thk_body {N n tk kind T : Nat} {ty is : Int32} {F : Wd → Option (Int32 × Wd)} {Q : Nat → Nat → Wd → Prop} {v1 : Wd} (hn : n < 24000) (h12 : gi fM 12 n = Int32.ofNat tk) (ht : tk ≤ m) (hf : FTA c sp T) (hT1 : 1 ≤ T) (h0 : EM kd wr m fM lev cur sp c (upC c 0 (c 0 + 1)) w v1 [] (fun b b' g => opW g b 10 0 0 0 ∧ b' = b + 1) 1 0 0 0)
    (hF : ∀ d v, GCS kd wr m fM lev cur d sp v → FIT d sp T → ∃ u c', F v = some (is, u) ∧ EM kd wr m fM lev cur sp d c' v u L Q (2 * T - 1) ((T - 1) / 2) ((T + 1) / 2) ((T - 1) / 2)) :
    ∃ u c', (bn2 (fX12_newThunk (Int32.ofNat kind) v1) fun x1 w2 => bn2 (F w2) fun x4 w5 => fX12_thunk_212 (RX12_mustBe N) (Int32.ofNat n) ty (Int32.ofNat (c 0)) (Int32.ofNat kind) x1 x4 w5) = some (Int32.ofNat (c 1), u) ∧ EM kd wr m fM lev cur sp c c' w u (L ++ (if is ≠ 0 ∧ is ≠ ty then [(tk, 4)] else [])) (thP (c 1) (Int32.ofNat kind) Q) (2 * T + 1) ((T - 1) / 2 + 1) ((T + 1) / 2) ((T - 1) / 2) := by
  unfold FTA at hf
  have u0 : upC c 0 (c 0 + 1) 0 = c 0 + 1 := upC_s
  have un : ∀ i, i ≠ 0 → upC c 0 (c 0 + 1) i = c i := fun i hi => upC_n hi
  obtain ⟨v2, y1, y2⟩ := EM.thk h0.1 (by rw [un 1 (by omega)]; omega) (a := Int32.ofNat kind)
  rw [un 1 (by omega)] at y1 y2
  generalize hd : upC (upC c 0 (c 0 + 1)) 1 (c 1 + 1) = d at y2
  have d0 : d 0 = c 0 + 1 := by rw [← hd, upC_n (by omega), u0]
  have d1 : d 1 = c 1 + 1 := by rw [← hd, upC_s]
  have d2 : d 2 = c 2 := by rw [← hd, upC_n (by omega), un 2 (by omega)]
  have d3 : d 3 = c 3 := by rw [← hd, upC_n (by omega), un 3 (by omega)]
  obtain ⟨v3, e, z1, z2⟩ := hF d v2 y2.1 (by unfold FIT; omega)
  have hb := z2.2.2.2.2.2.2.1
  have h1 := y2.seq z2
  obtain ⟨u, c', r1, r2⟩ := thk_end (N := N) (th := c 1) (kind := kind) (ty := ty) (is := is) hn h12 ht (by omega) h0 h1 (by omega)
  refine ⟨u, c', by rw [y1, bn2_so, z1, bn2_so, r1], r2.wk (fun b b' g hg => ?_) (by omega)⟩
  obtain ⟨g1, q, ⟨b1, ⟨g2, g3, g4⟩, g5⟩, g6, g7⟩ := hg
  rw [g2] at g5
  exact ⟨g1, g3, g4, q, g5, g6, g7⟩
/-- the first code of a thunk is the jump over it -/
theorem thk_eq {N n : Nat} {ty : Int32} (h : GCS kd wr m fM lev cur c sp w) (hn : n < 24000) (hc : c 0 < 60000) : ∃ v1, EM kd wr m fM lev cur sp c (upC c 0 (c 0 + 1)) w v1 [] (fun b b' g => opW g b 10 0 0 0 ∧ b' = b + 1) 1 0 0 0 ∧ RX12_mustBe (N + 1) 11 (Int32.ofNat n) ty 0 w = (if gi fM 7 n = 4 then fX12_thunk_26 (RX12_mustBe N) (Int32.ofNat n) ty (Int32.ofNat (c 0)) true v1 else fX12_thunk_26 (RX12_mustBe N) (Int32.ofNat n) ty (Int32.ofNat (c 0)) false v1) := by
  obtain ⟨v1, y1, y2⟩ := EM.op h hc (a := 10) (x := 0) (y := 0) (z := 0)
  refine ⟨v1, y2, ?_⟩
  show fX12_thunk (RX12_mustBe N) (Int32.ofNat n) ty w = _
  unfold fX12_thunk
  rw [y1, bn2_so, if_pos (inb_iN hn (by omega)), tc_iN (by omega), (y2.1.fx (k := 7) (by unfold PGM PGX; omega)).1]
/-- kinds: an EXPR worked out, or a place -/
theorem thk_0 {N n : Nat} {v1 : Wd} {ty a3 : Int32} : fX12_thunk_119 (RX12_mustBe N) (Int32.ofNat n) ty a3 (Int32.ofNat 0) v1 = bn2 (fX12_newThunk (Int32.ofNat 0) v1) fun x1 w2 => bn2 (RX12_mustBe N 1 (Int32.ofNat n) 0 0 w2) fun x4 w5 => fX12_thunk_212 (RX12_mustBe N) (Int32.ofNat n) ty a3 (Int32.ofNat 0) x1 x4 w5 := by
  unfold fX12_thunk_119
  refine bn2_cg fun x1 w2 => ?_
  rw [if_pos (show Int32.ofNat 0 = 0 from rfl)]
theorem thk_1 {N n : Nat} {v1 : Wd} {ty a3 : Int32} : fX12_thunk_119 (RX12_mustBe N) (Int32.ofNat n) ty a3 (Int32.ofNat 1) v1 = bn2 (fX12_newThunk (Int32.ofNat 1) v1) fun x1 w2 => bn2 (RX12_mustBe N 5 (Int32.ofNat n) 0 0 w2) fun x4 w5 => fX12_thunk_212 (RX12_mustBe N) (Int32.ofNat n) ty a3 (Int32.ofNat 1) x1 x4 w5 := by
  unfold fX12_thunk_119
  refine bn2_cg fun x1 w2 => ?_
  rw [if_neg (show ¬ (Int32.ofNat 1 = 0) by decide), if_pos (show Int32.ofNat 1 = 1 from rfl)]
end SG
