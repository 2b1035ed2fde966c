/-! PASS 2, THE REFERENCE: thunks of NAMES -/
section SG
variable {kd wr nm : Nat → Nat} {vv : Nat → Int64} {m lev cur sp : Nat} {fA fM : Wd} {c c1 c2 C TK : Nat → Nat} {SL : Nat → List Nat} {w u v : Wd} {L L1 L2 : List (Nat × Int32)} {P P1 P2 : Nat → Nat → Wd → Prop} {a0 a1 a2 a3 b0 b1 b2 b3 : Nat} {lu : Nat → Nat}
/-- a formal by name: used as it is -/
theorem thk_same (hT : TBM kd wr nm vv m C TK SL fA fM) {N n tk y : Nat} {ty : Int32} {stk : List Nat} {v1 : Wd} (hU : UPM (C 2) fM stk) (hl : stk.length < 9000) (hn : n < 24000) (h12 : gi fM 12 n = Int32.ofNat tk) (h13 : gi fM 13 n = hdM stk) (ht : tk < m) (hk : kd tk = 2) (hy : luN nm TK SL stk tk = y + 1) (hf : FTA c sp 1) (h0 : EM kd wr m fM lev cur sp c (upC c 0 (c 0 + 1)) w v1 [] (fun b b' g => opW g b 10 0 0 0 ∧ b' = b + 1) 1 0 0 0) :
    ∃ u c', fX12_thunk_119 (RX12_mustBe N) (Int32.ofNat n) ty (Int32.ofNat (c 0)) (Int32.ofNat 2) v1 = some (Int32.ofNat (c 1), u) ∧ EM kd wr m fM lev cur sp c c' w u (if gi fM 20 y ≠ 0 ∧ gi fM 20 y ≠ ty then [(tk, 4)] else []) (thP (c 1) (Int32.ofNat 2) (fun b b' g => opW g b 4 (upI fM lev y) (gi fM 26 y) 2 ∧ b' = b + 1)) 3 1 1 0 := by
  unfold FTA at hf
  have hC := hT.2.2.2.1
  have hle := luN_le hT hU (tk := tk)
  obtain ⟨t1, t2, t3, t4, t5, t6, t7, ⟨p, lp, q1, q2, q3, q4⟩, t9⟩ := hT.2.2.2.2.2.2 y (by omega)
  have hm := h0.1.1.1.1
  have u0 : upC c 0 (c 0 + 1) 0 = c 0 + 1 := upC_s
  have un : ∀ i, i ≠ 0 → upC c 0 (c 0 + 1) i = c i := fun i hi => upC_n hi
  obtain ⟨v2, y1, y2⟩ := EM.thk h0.1 (by rw [un 1 (by omega)]; omega) (a := Int32.ofNat 2)
  rw [un 1 (by omega)] at y1 y2
  generalize hd : upC (upC c 0 (c 0 + 1)) 1 (c 1 + 1) = d at y2
  have d0 : d 0 = c 0 + 1 := by rw [← hd, upC_n (by omega), u0]
  have hlk := g_look hT y2.1 hU hl (tk := tk)
  rw [hy, if_neg (by omega), Nat.add_sub_cancel] at hlk
  have e : ∀ v {c'}, GCS kd wr m fM lev cur c' sp v → ∀ k j, (7 ≤ k ∧ k ≤ 32) → gi v k j = gi fM k j := fun v c' hv k j hk => (hv.fx (by unfold PGM PGX; omega)).1
  have e4 : gl v2 4 tk = vv (nm tk) := ((y2.1.fx (k := 4) (by unfold PGM PGX; omega)).2).trans (hT.2.2.2.2.2.1 tk ht hk)
  obtain ⟨v3, z1, z2⟩ := EM.op y2.1 (by omega) (a := 4) (x := upI fM lev y) (y := gi fM 26 y) (z := 2)
  have h1 := y2.seq z2
  have hb : upC d 0 (d 0 + 1) 0 = d 0 + 1 := upC_s
  obtain ⟨u, c', r1, r2⟩ := thk_end (N := N) (th := c 1) (kind := 2) (ty := ty) (is := gi fM 20 y) hn h12 (by omega) (by omega) h0 h1 (by rw [hb]; omega)
  refine ⟨u, c', ?_, (r2.fls (by rw [List.nil_append, List.nil_append])).wk (fun b b' g hg => ?_) (by omega)⟩
  · have hnb : inb (Int32.ofNat n) 24000 = true := inb_iN hn (by omega)
    have hnc : (Int32.ofNat n).toNatClampNeg = n := tc_iN (by omega)
    have hy5 : inb (Int32.ofNat y) 5000 = true := inb_iN (by omega) (by omega)
    have hyc : (Int32.ofNat y).toNatClampNeg = y := tc_iN (by omega)
    unfold fX12_thunk_119
    rw [y1, bn2_so, if_neg (show ¬ (Int32.ofNat 2 = 0) by decide), if_neg (show ¬ (Int32.ofNat 2 = 1) by decide), if_pos hnb, if_pos hnb, hnc, e v2 y2.1 12 n (by omega), h12, if_pos (inb_iN (by omega) (by omega)), tc_iN (by omega), e v2 y2.1 13 n (by omega), h13, e4, hlk, bn2_so, g_up y2.1 (by omega) q1 (by omega), bn2_so, if_pos hy5, hyc, e v2 y2.1 26 y (by omega), z1, bn2_so, if_pos hy5, e v3 z2.1 20 y (by omega), ltq, r1]
  · obtain ⟨g1, q, ⟨b1, ⟨g2, g3, g4⟩, g5⟩, g6, g7⟩ := hg
    rw [g2] at g5
    exact ⟨g1, g3, g4, q, g5, g6, g7⟩
end SG
